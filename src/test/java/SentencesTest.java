import java.util.ArrayList;
import java.util.List;
import java.util.NoSuchElementException;

/**
 * The sentences of the document that name no edge of their own, with ordinary inputs; and small cells whose layouts
 * are all laid by hand, one by one, so that what is asked of all orders can be counted.
 */
public final class SentencesTest {
    private static final Class<IndexOutOfBoundsException> NO_INDEX = IndexOutOfBoundsException.class;
    private static final Class<IllegalArgumentException> NO_ARGUMENT = IllegalArgumentException.class;
    private static final Class<IllegalStateException> NO_STATE = IllegalStateException.class;
    private static final Class<NoSuchElementException> NO_ELEMENT = NoSuchElementException.class;

    // unit 2: fingers 0 and 1 of pair 0, finger 2 of pair 1; 1 is not joined to 0, 2 is joined to 1
    private static final String WHOLE = "cell 2 3;rail 1;pair 5 up 1 4 low 0 6 wide 3;pin 6;block 2 0 9;"
        + "pair 7 up 4 8 low 6 9;pin 0;rail 10";
    private static final String[] SMALL = {"0 up 1 2 low 3 4", "0 up 2 1 low 4 3|5 up 1 2 low 3 3",
        "8 up 0 1 low 9 9|8 up 1 2 low 9 9|8 up 2 3 low 9 9", "8 up 0 1 low 4 5|8 up 1 2 low 6 7|8 up 2 3 low 5 6",
        "1 up 0 0 low 2 3|1 up 0 4 low 3 3|2 up 5 5 low 6 7", "3 up 1 2 low 1 2|3 up 1 2 low 2 1|4 up 2 2 low 1 1",
        "0 up 1 1 low 2 2|0 up 3 4 low 5 6|0 up 1 3 low 2 5"};

    public static void main(String[] args) {
        newObject();
        wholeCell();
        fingers();
        lines();
        layout();
        leftAndRight();
        meets();
        columns();
        byHand();
        free();
        exceptions();
        ofPairAndPlace();
        ofNetAndLayout();
        readBack();
        bounds();
        tracks();
        for (String pairs : SMALL) {
            small(pairs.split("\\|"));
        }
        Check.close();
    }

    private static void newObject() {
        Check.says("No CELL.");
        FingerRows x = new FingerRows();
        for (int what = 0; what < 8; what++) {
            Check.due("count " + what, 0, x.count(what));
        }
        Check.due("no column", 0, x.layout(2));
        Check.due("no text was read", -1, x.fault());
        Check.due("the TAPE is empty", 20, x.feed(0, 0, 0, 0, 0));
        Check.due("no IMAGE", false, x.back());
    }

    private static void wholeCell() {
        Check.says("THE CELL: UNIT 1 to 9, PITCH 1 to 4; NETS 0 to 11, RAILS (some NETS; none at first), PINS (at most 6 "
            + "NETS; none at first); PAIRS (at most 8, numbered from 0 on): GATE, UP of two NETS, LOW of two NETS, WIDE "
            + "1 to 40; BLOCKS (at most 6): a TRACK 0 to 11, from a column to another one, 0 to 40.");
        FingerRows x = Check.told(WHOLE);
        int[] counts = {2, 3, 1 << 1 | 1 << 10, 1 << 6 | 1, 1, 2, 3, 0};
        for (int what = 0; what < counts.length; what++) {
            Check.due("count " + what, counts[what], x.count(what));
        }
        int[][] pairs = {{5, 1, 4, 0, 6, 3}, {7, 4, 8, 6, 9, 1}};
        for (int i = 0; i < 12; i++) {
            Check.due("pair " + i / 6 + " " + i % 6, pairs[i / 6][i % 6], x.pair(i / 6, i % 6));
        }
        Check.due("net 0 has a WIRE", true, x.net(0, 6) >= 0);
        Check.due("the BLOCK is in TRACK 2", 0, x.fits(0, 2));
        Check.due("in no other one", 1, x.fits(0, 11));
    }

    private static void fingers() {
        Check.says("FINGERS (at most 8, numbered from 0 on): of each PAIR, by numbers, WIDE by UNIT, rounded up, each "
            + "with GATE, UP, LOW of it.");
        FingerRows x = Check.told(WHOLE);
        int[][] nets = {{5, 1, 4, 0, 6}, {5, 1, 4, 0, 6}, {7, 4, 8, 6, 9}};
        for (int place = 0; place < 3; place++) {
            int gate = x.at(place, 3);
            Check.due("FINGER", place, x.at(place, 0));
            Check.due("PAIR", place / 2, x.at(place, 1));
            Check.due("GATE", nets[place][0], x.column(gate, 2));
            Check.due("UP", nets[place][1], x.column(gate - 1, 0));
            Check.due("UP", nets[place][2], x.column(gate + 1, 0));
            Check.due("LOW", nets[place][3], x.column(gate - 1, 1));
            Check.due("LOW", nets[place][4], x.column(gate + 1, 1));
        }
        Check.due("FINGERS of pair 0", 3, x.pair(0, 6));
        Check.due("FINGERS of pair 1", 4, x.pair(1, 6));
    }

    private static void lines() {
        Check.says("It is told by a text, in place of the one before: cell N N { ; LINE }: UNIT, PITCH; LINE (at most "
            + "20): pair N up N N low N N [ wide N ] (GATE; WIDE 1 without) | rail N | pin N | block N N N (TRACK, the "
            + "first, the last column).");
        // the same lines in every order that keeps the pairs' own
        String[] orders = {"prib", "pirb", "ripb", "bpri", "irbp", "brip"};
        for (String order : orders) {
            StringBuilder text = new StringBuilder("cell 3 2");
            for (char c : order.toCharArray()) {
                text.append(c == 'p' ? ";pair 0 up 1 2 low 3 4 wide 4" : c == 'r' ? ";rail 3" : c == 'i' ? ";pin 4"
                    : ";block 1 2 5");
            }
            FingerRows x = Check.told(text.toString());
            int[] counts = {1, 2, 8, 16, 1, 3, 2};
            for (int what = 0; what < counts.length; what++) {
                Check.due("count " + what + " of " + text, counts[what], x.count(what));
            }
            Check.due("WIDE of " + text, 4, x.pair(0, 5));
        }
        // net 1 from 0 to 3, net 3 too, net 2 and net 4 from 2 to 5, net 0 from 1 to 4
        FingerRows block = Check.told("cell 1 1;pair 0 up 1 2 low 3 4 wide 2;block 7 4 5");
        int[] fits = {0, 1, 0, 1, 0};
        for (int net = 0; net < 5; net++) {
            Check.due("TRACK, the first, the last column, net " + net, fits[net], block.fits(net, 7));
        }
    }

    private static void layout() {
        Check.says("A LAYOUT: all FINGERS in some order, by places (0 the first, at the left), each with a TURN");
        FingerRows x = Check.told(WHOLE);
        x.move(2, 0);
        int[] order = {2, 0, 1};
        for (int place = 0; place < 3; place++) {
            Check.due("FINGER of place " + place, order[place], x.at(place, 0));
            Check.due("TURN of place " + place, 0, x.at(place, 2));
            Check.due("the GATE of the left one is at the left", 3 * place + 1, x.at(place, 3));
        }
    }

    private static void leftAndRight() {
        Check.says("Of a FINGER the left NET of UP is the first one of UP (turned: the second one), the right one is the "
            + "other one; of LOW likewise.");
        FingerRows x = Check.told("cell 1 1;pair 0 up 1 2 low 3 4;pair 5 up 6 7 low 8 9");
        int[][] nets = {{6, 8, 7, 9}, {7, 8, 6, 9}, {6, 9, 7, 8}, {7, 9, 6, 8}};
        for (int turn = 0; turn < 4; turn++) {
            x.turn(1, turn);
            for (int i = 0; i < 4; i++) {
                Check.due("turn " + turn + " net " + i, nets[turn][i], x.column(i < 2 ? 3 : 5, i % 2));
            }
            Check.due("the other one is not turned", 1, x.column(0, 0));
            Check.due("the other one is not turned", 3, x.column(0, 1));
        }
    }

    private static void meets() {
        Check.says("Between two FINGERS one behind the other: UP MEETS, if the right NET of UP of the first is the left "
            + "NET of UP of the second; LOW likewise.");
        // the left nets of the first one, and the right ones of the second one, count for nothing
        String[] seconds = {"2 9 low 4 9", "2 9 low 3 9", "1 9 low 4 9", "1 2 low 3 4", "9 2 low 9 4", "4 9 low 2 9"};
        int[] breaks = {0, 1, 1, 2, 2, 2};
        for (int i = 0; i < seconds.length; i++) {
            FingerRows x = Check.told("cell 1 1;pair 0 up 1 2 low 3 4;pair 0 up " + seconds[i]);
            Check.due("BREAKS of " + seconds[i], breaks[i], x.layout(1));
            Check.due("JOINS " + seconds[i], breaks[i] == 0 ? 1 : 0, x.at(0, 4));
            Check.due("GAPS of " + seconds[i], breaks[i] == 0 ? 0 : 1, x.layout(0));
        }
    }

    private static void columns() {
        Check.says("COLUMNS, from 0 on: of a FINGER a column of its left NETS, one of its GATE, one of its right NETS; the "
            + "right one is the left one of the next FINGER, if they JOIN; else that one's is the next column.");
        FingerRows x = Check.told(WHOLE);
        int[][] all = {{1, 0, -1}, {-1, -1, 5}, {4, 6, -1}, {1, 0, -1}, {-1, -1, 5}, {4, 6, -1}, {-1, -1, 7}, {8, 9, -1}};
        Check.due("SPAN", all.length, x.layout(2));
        for (int i = 0; i < 3 * all.length; i++) {
            Check.due("column " + i / 3 + " " + i % 3, all[i / 3][i % 3], x.column(i / 3, i % 3));
        }
    }

    private static void byHand() {
        Check.says("BY HAND: TURNED: a place has another TURN.");
        FingerRows x = Check.told(WHOLE);
        for (int place = 0; place < 3; place++) {
            for (int turn = 3; turn >= 0; turn--) {
                int before = x.at(place, 2);
                Check.due("what TURN was", before, x.turn(place, turn));
                Check.due("another TURN", turn, x.at(place, 2));
                Check.due("the same FINGER", place, x.at(place, 0));
            }
        }
        Check.says("LAID: the LAYOUT is the k-th BEST.");
        for (int k = 0; k < x.many(); k++) {
            FingerRows y = Check.told(WHOLE);
            Check.due("GAPS then", y.least(), y.lay(k));
            for (int place = 0; place < 3; place++) {
                Check.due("FINGER of " + place + " of " + k, y.best(k, place, false), y.at(place, 0));
                Check.due("TURN of " + place + " of " + k, y.best(k, place, true), y.at(place, 2));
            }
            Check.due("it is remembered", 1, y.count(7));
        }
    }

    private static void free() {
        Check.says("FREE: the columns of PINS: each PIN that has a column at all goes to a column that is a multiple of "
            + "PITCH, less than SPAN, no two to one");
        for (int pitch = 1; pitch <= 4; pitch++) {
            FingerRows x = Check.told("cell 1 " + pitch + ";pair 0 up 1 2 low 3 4 wide 2;pin 2;pin 0;pin 11");
            int one = x.net(2, 5);
            int two = x.net(0, 5);
            Check.due("multiples of " + pitch, 0, one % pitch + two % pitch);
            Check.due("within the SPAN", true, one >= 0 && two >= 0 && one < x.layout(2) && two < x.layout(2));
            Check.due("no two to one", true, one != two);
            Check.due("of a PIN without a column", -1, x.net(11, 5));
        }
        // net 2 from 2 to 5 and gate 0 from 1 to 4: by 3 and by 4 one column is left within both, and 0 is nearer to the gate
        int[][] due = {{1, 2, 0}, {2, 4, 0}, {3, 3, 1}, {4, 4, 1}};
        for (int[] one : due) {
            FingerRows x = Check.told("cell 1 " + one[0] + ";pair 0 up 1 2 low 3 4 wide 2;pin 2;pin 0");
            Check.due("the PIN of net 2 by " + one[0], one[1], x.net(2, 5));
            Check.due("STRETCH by " + one[0], one[2], x.layout(10));
        }
    }

    private static void exceptions() {
        FingerRows x = Check.told(WHOLE);
        Check.says("IndexOutOfBoundsException: there is no such PAIR, FINGER, place, column, NET (0 to 11).");
        Check.dueThrow("PAIR", NO_INDEX, () -> x.pair(2, 0));
        Check.dueThrow("FINGER", NO_INDEX, () -> x.starts(3));
        Check.dueThrow("FINGER", NO_INDEX, () -> x.with(0, 3));
        Check.dueThrow("FINGER", NO_INDEX, () -> x.neighbours(3, 0));
        Check.dueThrow("place", NO_INDEX, () -> x.at(3, 0));
        Check.dueThrow("place", NO_INDEX, () -> x.best(0, 3, true));
        Check.dueThrow("place", NO_INDEX, () -> x.turn(3, 0));
        Check.dueThrow("place", NO_INDEX, () -> x.move(0, 3));
        Check.dueThrow("column", NO_INDEX, () -> x.column(8, 0));
        Check.dueThrow("NET", NO_INDEX, () -> x.net(12, 0));
        Check.dueThrow("NET", NO_INDEX, () -> x.fits(12, 0));
        Check.dueThrow("NET", NO_INDEX, () -> x.room(12));
        Check.due("a NET that is not told is one", 0, x.net(11, 2));
        Check.says("IllegalArgumentException: a number is none, two are one, a text is wrong.");
        Check.dueThrow("a number is none", NO_ARGUMENT, () -> x.best(x.many(), 0, true));
        Check.dueThrow("a number is none", NO_ARGUMENT, () -> x.lay(x.many()));
        Check.dueThrow("a number is none", NO_ARGUMENT, () -> x.parted(4, true));
        Check.dueThrow("a number is none", NO_ARGUMENT, () -> x.shortest(0, true));
        Check.dueThrow("a number is none", NO_ARGUMENT, () -> x.turn(0, 4));
        Check.dueThrow("a number is none", NO_ARGUMENT, () -> x.fits(0, 12));
        Check.dueThrow("a number is none", NO_ARGUMENT, () -> x.ofSet(8));
        Check.dueThrow("two are one", NO_ARGUMENT, () -> x.move(1, 1));
        Check.dueThrow("two are one", NO_ARGUMENT, () -> x.neighbours(1, 1));
        Check.dueThrow("a text is wrong", NO_ARGUMENT, () -> x.cell());
        Check.says("IllegalStateException: it cannot be.");
        Check.dueThrow("nothing to take back", NO_STATE, () -> x.undo());
        Check.dueThrow("nothing to mirror", NO_STATE, () -> new FingerRows().mirror());
        Check.says("Sets are bits.");
        Check.due("of FINGERS", 7, x.pair(0, 6) | x.pair(1, 6));
        Check.due("of NETS", 1 << 1 | 1 << 10, x.count(2));
        Check.due("of TRACKS", 0, x.room(0) >> 2 & 1);
    }

    private static void ofPairAndPlace() {
        FingerRows x = Check.told(WHOLE);
        x.turn(2, 3);
        Check.says("Of a PAIR what 0 GATE, 1, 2 the NETS of UP, 3, 4 those of LOW, 5 WIDE, 6 its FINGERS, as bits. "
            + "NoSuchElementException: another what.");
        int[] pair = {7, 4, 8, 6, 9, 1, 4};
        for (int what = 0; what < pair.length; what++) {
            Check.due("what " + what + ", however it is turned", pair[what], x.pair(1, what));
        }
        Check.dueThrow("another what", NO_ELEMENT, () -> x.pair(1, 7));
        Check.says("Of the FINGER in a place what 0 it, 1 its PAIR, 2 TURN, 3 the column of its GATE");
        x.move(2, 1);
        int[][] places = {{0, 0, 0, 1}, {2, 1, 3, 4}, {1, 0, 0, 7}};
        for (int i = 0; i < 12; i++) {
            Check.due("place " + i / 4 + " " + i % 4, places[i / 4][i % 4], x.at(i / 4, i % 4));
        }
        Check.says("Of a column what 0 the NET of UP, 1 of LOW (NONE of a column of a GATE), 2 GATE (NONE else), 3 CUT.");
        int[][] columns = {{1, 0, -1}, {-1, -1, 5}, {4, 6, -1}, {8, 9, -1}, {-1, -1, 7}, {4, 6, -1}, {1, 0, -1}};
        for (int i = 0; i < 21; i++) {
            Check.due("column " + i / 3 + " " + i % 3, columns[i / 3][i % 3], x.column(i / 3, i % 3));
        }
    }

    private static void ofNetAndLayout() {
        FingerRows x = Check.told(WHOLE);
        Check.says("Of a NET what 0 its least column, 1 the greatest one (NONE), 2 how many, 3 1 if a RAIL, 4 1 if a PIN, "
            + "5 the column of its PIN (NONE)");
        // pins go to 0, 3 and 6: net 0, of columns 0 and 3, to 0; net 6, of 2 and 5, to 3
        int[][] nets = {{0, 3, 2, 0, 1, 0}, {0, 3, 2, 1, 0, -1}, {-1, -1, 0, 0, 0, -1}, {-1, -1, 0, 0, 0, -1},
            {2, 5, 2, 0, 0, -1}, {1, 4, 2, 0, 0, -1}, {2, 5, 2, 0, 1, 3}, {6, 6, 1, 0, 0, -1}, {7, 7, 1, 0, 0, -1},
            {7, 7, 1, 0, 0, -1}, {-1, -1, 0, 1, 0, -1}, {-1, -1, 0, 0, 0, -1}};
        for (int i = 0; i < 72; i++) {
            Check.due("net " + i / 6 + " " + i % 6, nets[i / 6][i % 6], x.net(i / 6, i % 6));
        }
        Check.says("0 GAPS, 1 BREAKS, 2 SPAN, 3 WIRES, 4 the greatest CUT, 5 WORST (NONE), 6 TRACKS that have a WIRE, 7 "
            + "WIRES that are LOST, 8 the greatest TRACK that has one and 1 (0 without)");
        // wires: 0 from 0 to 3, 5 from 1 to 4, 4 and 6 from 2 to 5: tracks 0, 1, 3, 4, for 2 is blocked
        int[] layout = {1, 2, 8, 4, 4, 2, 4, 0, 5, 12, 0, 0};
        for (int what = 0; what < layout.length; what++) {
            Check.due("layout " + what, layout[what], x.layout(what));
        }
        Check.due("TRACK of net 6", 4, x.net(6, 8));
    }

    private static void readBack() {
        Check.says("READ BACK of a place: what a look at the columns tells of its FINGER: whether its GATE, its UP and LOW "
            + "(as unordered pairs) are what its PAIR has.");
        for (int k = 0; k < 24; k++) {
            FingerRows x = Check.told(WHOLE);
            x.turn(k % 3, k % 4);
            x.turn((k + 1) % 3, k / 4 % 4);
            if (k % 5 > 0) {
                x.move(k % 3, (k + 1) % 3);
            }
            for (int place = 0; place < 3; place++) {
                int pair = x.at(place, 1);
                int gate = x.at(place, 3);
                boolean so = x.column(gate, 2) == x.pair(pair, 0);
                for (int row = 0; row < 2; row++) {
                    int left = x.column(gate - 1, row);
                    int right = x.column(gate + 1, row);
                    int one = x.pair(pair, 1 + 2 * row);
                    int two = x.pair(pair, 2 + 2 * row);
                    so &= left == one && right == two || left == two && right == one;
                }
                Check.due("the columns tell it", true, so);
                Check.due("READ BACK", 1, x.at(place, 5));
            }
        }
    }

    private static void bounds() {
        Check.says("BOUND of UP (or LOW): of all NETS that UP of some FINGER has, as far as they are tied by these: of each "
            + "such part the NETS that it has an odd number of times (a FINGER whose both NETS are one has it twice), by 2, "
            + "1 at least; together, less 1 (0 without FINGERS).");
        // UP: a star of four rays, a loop, a line; LOW: one ring
        String rays = "cell 1 1;pair 0 up 1 2 low 1 2;pair 0 up 1 3 low 2 3;pair 0 up 1 4 low 3 4;pair 0 up 1 5 low 4 5;";
        FingerRows x = Check.told(rays + "pair 0 up 6 6 low 5 6;pair 0 up 7 8 low 6 1");
        Check.says("BOUND of UP, or of LOW.");
        Check.due("2 and 1 and 1, less 1", 3, x.bound(true));
        Check.due("one ring", 0, x.bound(false));
        Check.says("AGREES.");
        Check.due("AGREES", x.least() == 3, x.agrees());
        // GATES tie nothing
        FingerRows gates = Check.told("cell 1 1;pair 1 up 1 1 low 3 3;pair 1 up 2 2 low 3 3");
        Check.due("two parts", 1, gates.bound(true));
        Check.due("one part", 0, gates.bound(false));
        Check.due("AGREES", true, gates.agrees());
    }

    private static void tracks() {
        Check.says("TRACKS: WIRES by their first column, of like ones by NETS, each in the least TRACK");
        // net 1 from 0 to 3, net 3 from 0 to 3, gate 0 from 1 to 4, nets 2 and 4 from 2 to 5
        FingerRows x = Check.told("cell 1 1;pair 0 up 1 2 low 3 4 wide 2;block 1 4 9");
        int[] tracks = {2, 0, 3, 1, 4};
        for (int net = 0; net < 5; net++) {
            Check.due("TRACK of net " + net, tracks[net], x.net(net, 8));
        }
        Check.says("Whether a WIRE of a NET could be in a TRACK besides those that are there by TRACKS (its own aside), "
            + "BLOCKS counting: 1, 0; NONE without a WIRE.");
        int[] rooms = {0b111111100100, 0b111111100001, 0b111111101000, 0b111111100010, 0b111111110000};
        for (int net = 0; net < 5; net++) {
            Check.due("room of net " + net, rooms[net], x.room(net));
            for (int track = 0; track < 12; track++) {
                Check.due("net " + net + " in track " + track, rooms[net] >> track & 1, x.fits(net, track));
            }
        }
        Check.due("NONE without a WIRE", -1, x.fits(9, 0));
    }

    // ---- all layouts by hand: {finger, turn} by places

    private static String text(String[] pairs, int set) {
        StringBuilder text = new StringBuilder("cell 1 1");
        for (int i = 0; i < pairs.length; i++) {
            text.append((set >> i & 1) != 0 ? ";pair " + pairs[i] : "");
        }
        return text.append(";pin 2;pin 0").toString();
    }

    private static List<int[][]> all(int fingers) {
        List<int[][]> all = new ArrayList<>();
        addAll(all, new int[fingers][], 0, 0);
        return all;
    }

    private static void addAll(List<int[][]> all, int[][] so, int place, int used) {
        if (place == so.length) {
            all.add(so.clone());
        }
        for (int i = 0; i < 4 * so.length && place < so.length; i++) {
            if ((used >> i / 4 & 1) == 0) {
                so[place] = new int[] {i / 4, i % 4};
                addAll(all, so, place + 1, used | 1 << i / 4);
            }
        }
    }

    private static FingerRows laidByHand(String text, int[][] layout) {
        FingerRows x = Check.told(text);
        for (int place = 0; place < layout.length; place++) {
            int from = place;
            while (x.at(from, 0) != layout[place][0]) {
                from++;
            }
            if (from != place) {
                x.move(from, place);
            }
            x.turn(place, layout[place][1]);
        }
        return x;
    }

    private static void small(String[] pairs) {
        int n = pairs.length;
        String text = text(pairs, (1 << n) - 1);
        List<int[][]> all = all(n);
        List<int[][]> best = new ArrayList<>();
        List<FingerRows> laid = new ArrayList<>();
        int least = n;
        for (int[][] layout : all) {
            FingerRows x = laidByHand(text, layout);
            if (x.layout(0) < least) {
                best.clear();
                laid.clear();
                least = x.layout(0);
            }
            if (x.layout(0) == least) {
                best.add(layout);
                laid.add(x);
            }
        }
        FingerRows x = Check.told(text);
        Check.says("LEAST: the fewest GAPS of any LAYOUT. BEST ones: LAYOUTS with LEAST GAPS, in their order");
        Check.due("LEAST of " + text, least, x.least());
        Check.due("MANY of " + text, best.size(), x.many());
        sameOrder(text, x, best);
        ofBest(text, x, best, laid);
        withEnds(text, x, all);
        sets(pairs, x);
        ties(pairs, x);
        for (int i = 0; i < all.size(); i += 7) {
            better(text, all.get(i));
        }
    }

    private static void sameOrder(String text, FingerRows x, List<int[][]> best) {
        for (int k = 0; k < best.size() && k < 60; k++) {
            for (int place = 0; place < best.get(k).length; place++) {
                Check.due("FINGER of " + k + " of " + text, best.get(k)[place][0], x.best(k, place, false));
                Check.due("TURN of " + k + " of " + text, best.get(k)[place][1], x.best(k, place, true));
            }
        }
    }

    private static void ofBest(String text, FingerRows x, List<int[][]> best, List<FingerRows> laid) {
        Check.says("CALM.");
        int calm = Integer.MAX_VALUE;
        for (FingerRows one : laid) {
            calm = Math.min(calm, one.layout(1));
        }
        Check.due("CALM of " + text, calm, x.calm());
        int shortest = 0;
        for (int k = 0; k < 20; k++) {
            shortest = k < laid.size() && laid.get(k).layout(9) < laid.get(shortest).layout(9) ? k : shortest;
            Check.due("SHORT of " + (k + 1) + " of " + text, shortest, x.shortest(k + 1, false));
            Check.due("its LENGTH of " + text, laid.get(shortest).layout(9), x.shortest(k + 1, true));
        }
        int n = x.count(1);
        for (int finger = 0; finger < n; finger++) {
            int starts = 0;
            int[] beside = new int[n];
            for (int[][] one : best) {
                starts += one[0][0] == finger ? 1 : 0;
                for (int place = 0; place < n; place++) {
                    if (one[place][0] == finger && place > 0) {
                        beside[one[place - 1][0]]++;
                    }
                    if (one[place][0] == finger && place + 1 < n) {
                        beside[one[place + 1][0]]++;
                    }
                }
            }
            Check.says("STARTS.");
            Check.due("STARTS of " + finger + " of " + text, starts, x.starts(finger));
            for (int other = 0; other < n; other++) {
                if (other != finger) {
                    Check.due("NEIGHBOURS of " + text, beside[other], x.neighbours(finger, other));
                }
            }
        }
    }

    private static void withEnds(String text, FingerRows x, List<int[][]> all) {
        int n = x.count(1);
        int[] fewest = new int[n * n];
        java.util.Arrays.fill(fewest, -1);
        for (int[][] layout : all) {
            int spot = layout[0][0] * n + layout[n - 1][0];
            int gaps = laidByHand(text, layout).layout(0);
            fewest[spot] = fewest[spot] < 0 ? gaps : Math.min(fewest[spot], gaps);
        }
        Check.says("WITH; NONE.");
        for (int i = 0; i < n * n; i++) {
            Check.due("WITH " + i / n + " and " + i % n + " of " + text, fewest[i], x.with(i / n, i % n));
        }
    }

    /** Some of the fingers alone are a cell of their own. */
    private static void sets(String[] pairs, FingerRows x) {
        int all = (1 << pairs.length) - 1;
        int[] fewest = new int[all + 1];
        for (int set = 0; set <= all; set++) {
            fewest[set] = Check.told(text(pairs, set)).least();
            Check.due("OF A SET " + set, fewest[set], x.ofSet(set));
        }
        for (int n = 0; n <= pairs.length; n++) {
            int first = -1;
            for (int set = all; set >= 0; set--) {
                if (Integer.bitCount(set) == n && (first < 0 || fewest[set] + fewest[all - set] <= fewest[first]
                    + fewest[all - first])) {
                    first = set;
                }
            }
            Check.due("PARTED by " + n, first, x.parted(n, true));
            Check.due("its GAPS", fewest[first] + fewest[all - first], x.parted(n, false));
        }
        Check.says("DEAREST; NONE.");
        int dearest = pairs.length - 1;
        for (int finger = dearest; finger >= 0; finger--) {
            dearest = fewest[all - (1 << finger)] <= fewest[all - (1 << dearest)] ? finger : dearest;
        }
        Check.due("DEAREST", dearest, x.dearest());
        Check.due("without FINGERS", -1, new FingerRows().dearest());
    }

    private static void ties(String[] pairs, FingerRows x) {
        Check.says("TIES: of each two FINGERS whether there are TURNS by which the first JOINS the second, being ahead of "
            + "it: how many such pairs (both ways counted); LONELY: FINGERS that JOIN nobody so, either way, as bits.");
        int ties = 0;
        int lonely = (1 << pairs.length) - 1;
        for (int one = 0; one < pairs.length; one++) {
            for (int two = 0; two < pairs.length; two++) {
                boolean tied = false;
                for (int turns = 0; turns < 16 && one != two; turns++) {
                    FingerRows y = Check.told("cell 1 1;pair " + pairs[one] + ";pair " + pairs[two]);
                    y.turn(0, turns / 4);
                    y.turn(1, turns % 4);
                    tied |= y.at(0, 4) == 1;
                }
                ties += tied ? 1 : 0;
                lonely &= tied ? ~(1 << one | 1 << two) : -1;
            }
        }
        Check.says("TIES.");
        Check.due("TIES of " + String.join("|", pairs), ties, x.ties());
        Check.says("LONELY, as bits.");
        Check.due("LONELY of " + String.join("|", pairs), lonely, x.lonely());
    }

    private static void better(String text, int[][] layout) {
        Check.says("BETTER: of what one TURNED (a TURN unlike the one it has) or MOVED from this LAYOUT would come to the "
            + "fewest GAPS, and by which, the first of several");
        FingerRows x = laidByHand(text, layout);
        int n = layout.length;
        int[] due = {Integer.MAX_VALUE, 0, 0, 0};
        for (int i = 0; i < 4 * n; i++) {
            if (i % 4 != layout[i / 4][1]) {
                x.turn(i / 4, i % 4);
                due = x.layout(0) < due[0] ? new int[] {x.layout(0), 1, i / 4, i % 4} : due;
                x.undo();
            }
        }
        for (int i = 0; i < n * n; i++) {
            if (i / n != i % n) {
                int gaps = x.move(i / n, i % n);
                due = gaps < due[0] ? new int[] {gaps, 2, i / n, i % n} : due;
                x.undo();
            }
        }
        for (int what = 0; what < 4; what++) {
            Check.due("BETTER " + what + " of " + text, due[what], x.better(what));
        }
    }
}
