import java.util.Arrays;
import java.util.List;
import java.util.Random;

/** Random cells, layouts and calls: every answer of the class against that of the plain model. */
public final class ModelTest {
    private static final Random random = new Random(20261117L);

    private static FingerRows x;
    private static Model m;
    private static String run;

    private static final int[] sizes = new int[9];
    private static int rightTexts = 0;
    private static int withoutPinning = 0;
    private static int lostWires = 0;

    public static void main(String[] args) {
        for (int i = 0; i < 700; i++) {
            oneRun(i);
        }
        for (int i = 0; i < 20000; i++) {
            oneText(i);
        }
        for (int i = 0; i < 300; i++) {
            oneBigRun(i);
        }
        System.out.println("cells by fingers " + Arrays.toString(sizes) + ", right texts " + rightTexts
            + ", layouts without pinning " + withoutPinning + ", with lost wires " + lostWires);
        Check.close();
    }

    private static void oneRun(int number) {
        x = new FingerRows();
        m = new Model();
        int cells = 1 + random.nextInt(3);
        for (int c = 0; c < cells; c++) {
            String text = rightCell(number % 40 == 0 ? 6 : number % 8 == 0 ? 5 : 4);
            run = "run " + number + " [" + text + "] ";
            tell(text);
            sizes[m.fingers()]++;
            compareAll();
            for (int i = 0; i < 14; i++) {
                byHand();
                compareLayout();
            }
        }
    }

    /** Seven or eight fingers, too many for all layouts one by one. */
    private static void oneBigRun(int number) {
        x = new FingerRows();
        m = new Model();
        String text = number % 2 == 0 ? crowdedCell() : rightCell(8);
        while (new Model().cell(text) < 7) {
            text = rightCell(8);
        }
        run = "big run " + number + " [" + text + "] ";
        tell(text);
        sizes[m.fingers()]++;
        compareCell();
        compareLayout();
        compareBigOrders();
        for (int i = 0; i < 8; i++) {
            byHand();
            compareLayout();
        }
    }

    private static void tell(String text) {
        Check.feed(x, text);
        int want = m.cell(text);
        if (want == -2) {
            Check.dueThrow(run + "cell()", IllegalArgumentException.class, () -> x.cell());
        } else {
            Check.due(run + "cell()", want, x.cell());
        }
        Check.due(run + "fault()", m.fault, x.fault());
    }

    private static void oneText(int number) {
        if (number % 50 == 0) {
            x = new FingerRows();
            m = new Model();
        }
        StringBuilder text = new StringBuilder(randomCell(8));
        int harm = random.nextInt(4);
        for (int i = 0; i < harm && text.length() > 0; i++) {
            int spot = random.nextInt(text.length());
            String signs = " ;0123456789pairupowledbckn\u0000\u00ffA:/{`";
            switch (random.nextInt(4)) {
                case 0 -> text.setCharAt(spot, signs.charAt(random.nextInt(signs.length())));
                case 1 -> text.insert(spot, signs.charAt(random.nextInt(signs.length())));
                case 2 -> text.deleteCharAt(spot);
                default -> text.setLength(random.nextInt(3) == 0 ? spot : text.length());
            }
        }
        run = "text " + number + " [" + text + "] ";
        if (text.length() <= 400) {
            tell(text.toString());
            rightTexts += m.fault < 0 ? 1 : 0;
            compareCell();
        }
    }

    // ---- random cells

    private static int mostNets;

    private static int anyNet() {
        return random.nextInt(mostNets);
    }

    private static String rightCell(int mostFingers) {
        String text = randomCell(mostFingers);
        while (new Model().cell(text) == -2 || text.length() > 400) {
            text = randomCell(mostFingers);
        }
        return text;
    }

    /** Many nets over many columns, and six tracks blocked: wires are lost. */
    private static String crowdedCell() {
        mostNets = 9 + random.nextInt(4);
        StringBuilder s = new StringBuilder("cell 1 " + (1 + random.nextInt(3)));
        int pairs = 7 + random.nextInt(2);
        for (int i = 0; i < pairs; i++) {
            s.append(";pair ").append(anyNet()).append(" up ").append(anyNet()).append(" ").append(anyNet());
            s.append(" low ").append(anyNet()).append(" ").append(anyNet());
        }
        for (int i = 0; i < 6; i++) {
            s.append(";block ").append(random.nextInt(4) == 0 ? random.nextInt(12) : i).append(" ");
            s.append(random.nextInt(8)).append(" ").append(8 + random.nextInt(33));
        }
        for (int i = 0; i < 6; i++) {
            s.append(i < random.nextInt(7) ? ";pin " + i * 2 : "");
        }
        return s.toString();
    }

    private static String blanks(boolean needed) {
        return " ".repeat((needed ? 1 : 0) + (random.nextInt(8) == 0 ? random.nextInt(2) : 0));
    }

    private static String randomCell(int mostFingers) {
        mostNets = 2 + random.nextInt(random.nextInt(3) == 0 ? 11 : 5);
        StringBuilder s = new StringBuilder(blanks(false));
        int unit = 1 + random.nextInt(9);
        s.append("cell").append(blanks(random.nextInt(6) > 0)).append(unit).append(blanks(true));
        s.append(1 + random.nextInt(4)).append(blanks(false));
        int left = mostFingers;
        int lines = random.nextInt(6) == 0 ? random.nextInt(4) : 4 + random.nextInt(12);
        for (int i = 0; i < lines; i++) {
            int kind = random.nextInt(8);
            if (kind < 4 && left > 0) {
                int wide = 1 + random.nextInt(Math.min(40, random.nextInt(3) == 0 ? unit * left : unit));
                int more = (wide + unit - 1) / unit;
                left -= more;
                s.append(";").append(blanks(false)).append("pair").append(blanks(true)).append(anyNet());
                s.append(blanks(false)).append("up").append(blanks(true)).append(anyNet()).append(blanks(true));
                s.append(anyNet()).append(blanks(false)).append("low").append(blanks(true)).append(anyNet());
                s.append(blanks(true)).append(anyNet());
                if (wide > 1 || random.nextInt(3) == 0) {
                    s.append(blanks(false)).append("wide").append(blanks(true)).append(wide);
                }
            } else if (kind == 4) {
                s.append(";rail ").append(anyNet());
            } else if (kind < 7) {
                s.append(";pin ").append(anyNet());
            } else {
                int first = random.nextInt(25);
                s.append(";block ").append(random.nextInt(4)).append(" ").append(first).append(" ");
                s.append(first + random.nextInt(12));
            }
        }
        return s.append(blanks(false)).toString();
    }

    // ---- comparisons

    private static void compareCell() {
        int[] counts = {m.told.pairs.size(), m.fingers(), bits(m.told.rails), bits(m.told.pins),
            m.told.blocks.size(), m.told.unit, m.told.pitch, m.past.size(), -1};
        for (int w = 0; w < counts.length; w++) {
            Check.due(run + "count " + w, counts[w], x.count(w));
        }
        for (int p = 0; p < m.told.pairs.size(); p++) {
            for (int w = 0; w < 6; w++) {
                Check.due(run + "pair " + p + " " + w, m.told.pairs.get(p)[w], x.pair(p, w));
            }
            int set = 0;
            for (int f = 0; f < m.fingers(); f++) {
                set |= m.told.fingers.get(f) == p ? 1 << f : 0;
            }
            Check.due(run + "pair " + p + " 6", set, x.pair(p, 6));
        }
    }

    private static int bits(List<Integer> nets) {
        int set = 0;
        for (int n : nets) {
            set |= 1 << n;
        }
        return set;
    }

    private static void compareAll() {
        compareCell();
        compareLayout();
        compareOrders();
        compareSets();
    }

    private static void compareOrders() {
        List<Model.Layout> best = m.best();
        int n = m.fingers();
        Check.due(run + "least", m.least(), x.least());
        Check.due(run + "many", best.size(), x.many());
        int calm = 1000;
        long[] starts = new long[n];
        long[][] side = new long[n][n];
        for (Model.Layout l : best) {
            calm = Math.min(calm, m.breaks(l));
            for (int p = 0; p < n; p++) {
                starts[l.places.get(p)[0]] += p == 0 ? 1 : 0;
                if (p > 0) {
                    side[l.places.get(p)[0]][l.places.get(p - 1)[0]]++;
                    side[l.places.get(p - 1)[0]][l.places.get(p)[0]]++;
                }
            }
        }
        Check.due(run + "calm", calm, x.calm());
        for (int f = 0; f < n; f++) {
            Check.due(run + "starts " + f, starts[f], x.starts(f));
            for (int g = 0; g < n; g++) {
                final int one = f;
                final int two = g;
                if (f != g) {
                    Check.due(run + "neighbours " + f + " " + g, side[f][g], x.neighbours(f, g));
                } else {
                    Check.dueThrow(run + "neighbours", IllegalArgumentException.class, () -> x.neighbours(one, two));
                }
            }
        }
        for (int i = 0; i < 40; i++) {
            int k = i < 20 ? i : random.nextInt(best.size());
            for (int p = 0; p < n && k < best.size(); p++) {
                Check.due(run + "best " + k, best.get(k).places.get(p)[0], x.best(k, p, false));
                Check.due(run + "best " + k + " turn", best.get(k).places.get(p)[1], x.best(k, p, true));
            }
        }
        int shortest = 0;
        for (int k = 0; k < 20; k++) {
            if (k < best.size() && m.length(best.get(k)) < m.length(best.get(shortest))) {
                shortest = k;
            }
            Check.due(run + "shortest " + (k + 1), shortest, x.shortest(k + 1, false));
            Check.due(run + "shortest length " + (k + 1), m.length(best.get(shortest)), x.shortest(k + 1, true));
        }
    }

    /** Of each set and last stance gaps * 64 + breaks, the least, and of each the orders with its fewest gaps. */
    private static void compareBigOrders() {
        int n = m.fingers();
        int all = (1 << n) - 1;
        int[][] costs = new int[all + 1][n * 4];
        long[][] ways = new long[all + 1][n * 4];
        long[][] firsts = new long[n][0];
        int least = 1000;
        int calm = 1000;
        long many = 0;
        for (int first = -1; first < n; first++) {
            fillForward(first, costs, ways);
            long[] sums = new long[100];
            int cost = Integer.MAX_VALUE;
            for (int s = 0; s < n * 4; s++) {
                cost = Math.min(cost, costs[all][s]);
                sums[Math.min(99, costs[all][s] / 64)] += ways[all][s];
            }
            if (first < 0) {
                least = cost / 64;
                calm = cost % 64;
                many = sums[least];
                compareBigSets(costs);
            } else {
                firsts[first] = sums;
                compareBigEnds(first, costs[all]);
            }
        }
        Check.due(run + "least", least, x.least());
        Check.due(run + "calm", calm, x.calm());
        Check.due(run + "many", many, x.many());
        long sides = 0;
        for (int f = 0; f < n; f++) {
            Check.due(run + "starts " + f, firsts[f][least], x.starts(f));
            for (int g = 0; g < f; g++) {
                sides += x.neighbours(f, g);
                Check.due(run + "neighbours " + g + " " + f, x.neighbours(f, g), x.neighbours(g, f));
            }
        }
        Check.due(run + "neighbours of all", many * (n - 1), sides);
        for (int i = 0; i < 20; i++) {
            long k = i == 0 ? 0 : i == 1 ? many - 1 : Math.floorMod(random.nextLong(), many);
            Model.Layout here = bestOne(k);
            Check.due(run + "gaps of best " + k, least, m.gaps(here));
            if (k + 1 < many) {
                Check.due(run + "best " + k + " ahead of the next", true, isAhead(here, bestOne(k + 1)));
            }
        }
        final long none = many;
        Check.dueThrow(run + "best none", IllegalArgumentException.class, () -> x.best(none, 0, false));
    }

    private static void fillForward(int first, int[][] costs, long[][] ways) {
        int n = m.fingers();
        for (int set = 1; set < costs.length; set++) {
            for (int s = 0; s < n * 4; s++) {
                boolean alone = set == 1 << s / 4;
                costs[set][s] = alone && (first < 0 || first == s / 4) ? 0 : 64 * 1000;
                ways[set][s] = alone && (first < 0 || first == s / 4) ? 1 : 0;
                int before = set & ~(1 << s / 4);
                for (int r = 0; r < n * 4 && (set >> s / 4 & 1) != 0 && !alone; r++) {
                    if ((before >> r / 4 & 1) != 0 && costs[before][r] < 64 * 1000) {
                        int misses = m.misses(new int[] {r / 4, r % 4}, new int[] {s / 4, s % 4});
                        int cost = costs[before][r] + misses + (misses > 0 ? 64 : 0);
                        if (cost / 64 < costs[set][s] / 64) {
                            ways[set][s] = 0;
                        }
                        if (cost / 64 <= costs[set][s] / 64) {
                            ways[set][s] += ways[before][r];
                        }
                        costs[set][s] = Math.min(costs[set][s], cost);
                    }
                }
            }
        }
    }

    private static void compareBigSets(int[][] costs) {
        int all = costs.length - 1;
        int[] of = new int[all + 1];
        for (int set = 1; set <= all; set++) {
            of[set] = Arrays.stream(costs[set]).min().getAsInt() / 64;
            Check.due(run + "ofSet " + set, of[set], x.ofSet(set));
        }
        for (int k = 0; k <= m.fingers(); k++) {
            int least = 1000;
            int first = -1;
            for (int set = 0; set <= all; set++) {
                if (Integer.bitCount(set) == k && of[set] + of[all - set] < least) {
                    least = of[set] + of[all - set];
                    first = set;
                }
            }
            Check.due(run + "parted " + k, least, x.parted(k, false));
            Check.due(run + "parted set " + k, first, x.parted(k, true));
        }
    }

    private static void compareBigEnds(int first, int[] costs) {
        for (int last = 0; last < m.fingers(); last++) {
            int least = 1000;
            for (int t = 0; t < 4; t++) {
                least = Math.min(least, costs[last * 4 + t] / 64);
            }
            Check.due(run + "with " + first + " " + last, first == last ? -1 : least, x.with(first, last));
        }
    }

    private static Model.Layout bestOne(long k) {
        Model.Layout l = new Model.Layout();
        for (int p = 0; p < m.fingers(); p++) {
            l.places.add(new int[] {x.best(k, p, false), x.best(k, p, true)});
        }
        return l;
    }

    private static boolean isAhead(Model.Layout a, Model.Layout b) {
        for (int p = 0; p < m.fingers(); p++) {
            int compared = Arrays.compare(a.places.get(p), b.places.get(p));
            if (compared != 0) {
                return compared < 0;
            }
        }
        return false;
    }

    private static void compareSets() {
        int n = m.fingers();
        int all = (1 << n) - 1;
        int[] of = new int[all + 1];
        for (int set = 0; set <= all; set++) {
            of[set] = m.fewest(set, -1, -1);
            Check.due(run + "ofSet " + set, of[set], x.ofSet(set));
        }
        for (int k = 0; k <= n; k++) {
            int found = -1;
            for (int set = all; set >= 0; set--) {
                if (Integer.bitCount(set) == k && (found < 0 || of[set] + of[all ^ set] <= of[found] + of[all ^ found])) {
                    found = set;
                }
            }
            Check.due(run + "parted " + k, of[found] + of[all ^ found], x.parted(k, false));
            Check.due(run + "parted set " + k, found, x.parted(k, true));
        }
        int dearest = -1;
        int ties = 0;
        int lonely = 0;
        for (int f = 0; f < n; f++) {
            dearest = dearest < 0 || of[all & ~(1 << f)] < of[all & ~(1 << dearest)] ? f : dearest;
            int joined = 0;
            for (int g = 0; g < n; g++) {
                ties += f != g && m.tied(f, g) ? 1 : 0;
                joined += f != g && (m.tied(f, g) || m.tied(g, f)) ? 1 : 0;
                int with = f == g ? (n == 1 ? 0 : -1) : m.fewest(all, f, g);
                Check.due(run + "with " + f + " " + g, with, x.with(f, g));
            }
            lonely |= joined == 0 ? 1 << f : 0;
        }
        Check.due(run + "dearest", dearest, x.dearest());
        Check.due(run + "ties", ties, x.ties());
        Check.due(run + "lonely", lonely, x.lonely());
        Check.due(run + "bound up", m.bound(true), x.bound(true));
        Check.due(run + "bound low", m.bound(false), x.bound(false));
        Check.due(run + "agrees", m.least() == Math.max(m.bound(true), m.bound(false)), x.agrees());
    }

    private static void compareLayout() {
        Model.Layout l = m.layout;
        List<int[]> columns = m.columns(l);
        Check.due(run + "remembered", m.past.size(), x.count(7));
        for (int p = 0; p < m.fingers(); p++) {
            int[] place = l.places.get(p);
            boolean joins = p + 1 < m.fingers() && m.misses(place, l.places.get(p + 1)) == 0;
            int[] want = {place[0], m.told.fingers.get(place[0]), place[1], m.gateColumn(l, p), joins ? 1 : 0, 1};
            for (int w = 0; w < want.length; w++) {
                Check.due(run + "at " + p + " " + w, want[w], x.at(p, w));
            }
        }
        int worst = -1;
        for (int c = 0; c < columns.size(); c++) {
            int cut = m.cut(l, c);
            for (int w = 0; w < 3; w++) {
                Check.due(run + "column " + c + " " + w, columns.get(c)[w], x.column(c, w));
            }
            Check.due(run + "cut " + c, cut, x.column(c, 3));
            worst = cut > 0 && (worst < 0 || cut > m.cut(l, worst)) ? c : worst;
        }
        compareWires(l, columns.size(), worst);
        int[] better = m.better();
        for (int w = 0; w < 4; w++) {
            Check.due(run + "better " + w, better[w], x.better(w));
        }
    }

    private static void compareWires(Model.Layout l, int span, int worst) {
        int[][] wires = m.wires(l);
        int[] tracks = m.tracks(l);
        int[] pins = m.pinning(l);
        int total = 0;
        int lost = 0;
        int used = 0;
        for (int n = 0; n < 12; n++) {
            List<Integer> has = m.columnsOf(l, n);
            int[] want = {has.isEmpty() ? -1 : has.get(0), has.isEmpty() ? -1 : has.get(has.size() - 1), has.size(),
                m.told.rails.contains(n) ? 1 : 0, m.told.pins.contains(n) ? 1 : 0, pins == null ? -1 : pins[n],
                wires[n] == null ? -1 : wires[n][0], wires[n] == null ? -1 : wires[n][1], tracks[n]};
            for (int w = 0; w < want.length; w++) {
                Check.due(run + "net " + n + " " + w, want[w], x.net(n, w));
            }
            total += wires[n] == null ? 0 : 1;
            lost += wires[n] != null && tracks[n] < 0 ? 1 : 0;
            used |= tracks[n] < 0 ? 0 : 1 << tracks[n];
            int room = 0;
            for (int t = 0; t < 12; t++) {
                int fits = wires[n] == null ? -1 : m.couldBe(wires, tracks, n, t) ? 1 : 0;
                room |= fits == 1 ? 1 << t : 0;
                Check.due(run + "fits " + n + " " + t, fits, x.fits(n, t));
            }
            Check.due(run + "room " + n, wires[n] == null ? -1 : room, x.room(n));
        }
        withoutPinning += pins == null ? 1 : 0;
        lostWires += lost > 0 ? 1 : 0;
        int[] want = {m.gaps(l), m.breaks(l), span, total, worst < 0 ? 0 : m.cut(l, worst), worst,
            Integer.bitCount(used), lost, 32 - Integer.numberOfLeadingZeros(used), m.length(l),
            pins == null ? -1 : pins[12], m.same(l) ? 1 : 0};
        for (int w = 0; w < want.length; w++) {
            Check.due(run + "layout " + w, want[w], x.layout(w));
        }
    }

    // ---- changes

    private static void byHand() {
        int n = m.fingers();
        int kind = random.nextInt(10);
        int a = n == 0 ? 0 : random.nextInt(n);
        int b = n == 0 ? 0 : random.nextInt(n);
        int t = random.nextInt(4);
        if (kind < 3 && n > 0) {
            run += "turn " + a + " " + t + " ";
            int before = m.layout.places.get(a)[1];
            m.change(m.turned(m.layout, a, t));
            Check.due(run, before, x.turn(a, t));
        } else if (kind < 6 && a != b) {
            run += "move " + a + " " + b + " ";
            m.change(m.moved(m.layout, a, b));
            Check.due(run, m.gaps(m.layout), x.move(a, b));
        } else if (kind == 6 && n > 0) {
            run += "mirror ";
            m.change(m.mirrored(m.layout));
            Check.due(run, m.gaps(m.layout), x.mirror());
        } else if (kind == 7 && n < 7) {
            int k = random.nextInt(m.best().size());
            run += "lay " + k + " ";
            m.change(m.best().get(k).copy());
            Check.due(run, m.gaps(m.layout), x.lay(k));
        } else if (kind == 8) {
            undo();
        } else if (kind == 9) {
            imageOrBack();
        }
    }

    private static void undo() {
        run += "undo ";
        if (m.past.isEmpty()) {
            Check.dueThrow(run, IllegalStateException.class, () -> x.undo());
        } else {
            m.layout = m.past.remove(m.past.size() - 1);
            Check.due(run, m.past.size(), x.undo());
        }
    }

    private static void imageOrBack() {
        if (random.nextInt(3) > 0) {
            run += "image ";
            m.keptTold = m.told;
            m.keptLayout = m.layout.copy();
            x.image();
            return;
        }
        run += "back ";
        Check.due(run, m.keptTold != null, x.back());
        if (m.keptTold != null) {
            m.told = m.keptTold;
            m.layout = m.keptLayout.copy();
            m.past.clear();
            compareCell();
            if (m.fingers() < 7) {
                compareOrders();
            }
        }
    }
}
