import java.util.NoSuchElementException;

/** The edges of what is asked of all orders: part 3 of the Terms and promises 11 to 26, sentence by sentence. */
public final class OrdersEdgesTest {
    private static final Class<IndexOutOfBoundsException> NO_INDEX = IndexOutOfBoundsException.class;
    private static final Class<IllegalArgumentException> NO_ARGUMENT = IllegalArgumentException.class;
    private static final Class<NoSuchElementException> NO_ELEMENT = NoSuchElementException.class;

    private static final long ALL_LAYOUTS = 40320L * 65536L;
    private static final String ONE = "cell 1 1;pair 0 up 1 2 low 3 4";
    // all 8 join, however they stand
    private static final String FREE = "cell 1 1;pair 0 up 1 1 low 1 1 wide 8";
    // no two of 8 have a net in common
    private static final String STRANGE = strange("F F low F F");
    // no two of 8 join, but all LOW meet
    private static final String HALF = strange("F F low 8 8");
    // UP 0-1, 1-2, 2-3; all LOW meet
    private static final String CHAIN = "cell 1 1;pair 8 up 0 1 low 9 9;pair 8 up 1 2 low 9 9;pair 8 up 2 3 low 9 9";

    public static void main(String[] args) {
        least();
        many();
        bestOrder();
        bestEdges();
        calm();
        with();
        bound();
        agrees();
        ofSet();
        parted();
        dearest();
        tiesAndLonely();
        better();
        betterOrder();
        shortest();
        neighbours();
        starts();
        noSuchPair();
        changedByHand();
        behindAnotherText();
        Check.close();
    }

    private static String strange(String nets) {
        StringBuilder text = new StringBuilder("cell 1 1");
        for (int i = 0; i < 8; i++) {
            text.append(";pair 0 up ").append(nets.replace("F", "" + i));
        }
        return text.toString();
    }

    private static String pairs(String... pairs) {
        return "cell 1 1;pair 0 up " + String.join(";pair 0 up ", pairs);
    }

    private static int[] outside(int size) {
        return new int[] {-1, size, size + 1, size + 256, Integer.MIN_VALUE, Integer.MAX_VALUE, Integer.MIN_VALUE + size};
    }

    private static void least() {
        Check.says("LEAST: the fewest GAPS of any LAYOUT.");
        Check.due("one", 0, Check.told(ONE).least());
        Check.due("all join", 0, Check.told(FREE).least());
        Check.due("no two join", 7, Check.told(STRANGE).least());
        Check.due("half of each joins", 7, Check.told(HALF).least());
        Check.due("a chain", 0, Check.told(CHAIN).least());
        Check.says("LEAST (0 without FINGERS).");
        Check.due("without a CELL", 0, new FingerRows().least());
        Check.due("without FINGERS", 0, Check.told("cell 1 1;rail 1").least());
    }

    private static void many() {
        Check.says("MANY: how many there are.");
        Check.due("one", 4, Check.told(ONE).many());
        Check.due("more than an int can tell", ALL_LAYOUTS, Check.told(FREE).many());
        Check.due("as many with the most GAPS", ALL_LAYOUTS, Check.told(STRANGE).many());
        Check.due("a chain and its mirror image, LOW as it may be", 16, Check.told(CHAIN).many());
        Check.due("one way and back", 2, Check.told(ONE + ";pair 0 up 2 5 low 4 6").many());
        // three rays of net 2: two of them join there, the third one is as it may be, ahead or behind
        FingerRows star = Check.told(pairs("1 2 low 9 9", "2 3 low 9 9", "2 4 low 9 9"));
        Check.due("LEAST of a star", 1, star.least());
        Check.due("a star", 6 * 4 * 8, star.many());
        Check.due("STARTS of a star", 2 * 4 * 8, star.starts(1));
        Check.due("NEIGHBOURS of a star", 4 * 4 * 8, star.neighbours(0, 2));
        // the loop at an end may be turned, the other two may not
        FingerRows loop = Check.told(pairs("1 1 low 9 9", "1 2 low 9 9", "2 3 low 9 9"));
        Check.due("a loop at an end", 2 * 2 * 8, loop.many());
        Check.due("the loop ahead", 16, loop.starts(0));
        Check.due("the loop behind", 16, loop.starts(2));
        Check.says("MANY (1 without FINGERS).");
        Check.due("without a CELL", 1, new FingerRows().many());
        Check.due("without FINGERS", 1, Check.told("cell 1 1").many());
    }

    private static void row(FingerRows x, long k, int... stances) {
        for (int place = 0; place < stances.length; place++) {
            Check.due("FINGER of place " + place + " of " + k, stances[place] / 4, x.best(k, place, false));
            Check.due("TURN of place " + place + " of " + k, stances[place] % 4, x.best(k, place, true));
        }
    }

    private static void bestOrder() {
        Check.says("in their order: by the FINGER of place 0, its TURN, the FINGER of place 1, and on, the "
            + "lesser ahead.");
        FingerRows x = Check.told(FREE);
        row(x, 0, 0, 4, 8, 12, 16, 20, 24, 28);
        row(x, 1, 0, 4, 8, 12, 16, 20, 24, 29);
        row(x, 3, 0, 4, 8, 12, 16, 20, 24, 31);
        row(x, 4, 0, 4, 8, 12, 16, 20, 25, 28);
        row(x, 15, 0, 4, 8, 12, 16, 20, 27, 31);
        row(x, 16, 0, 4, 8, 12, 16, 20, 28, 24);
        row(x, 32, 0, 4, 8, 12, 16, 21, 24, 28);
        row(x, ALL_LAYOUTS / 32 - 1, 0, 31, 27, 23, 19, 15, 11, 7);
        row(x, ALL_LAYOUTS / 32, 1, 4, 8, 12, 16, 20, 24, 28);
        row(x, ALL_LAYOUTS / 8 - 1, 3, 31, 27, 23, 19, 15, 11, 7);
        row(x, ALL_LAYOUTS / 8, 4, 0, 8, 12, 16, 20, 24, 28);
        row(x, ALL_LAYOUTS - 2, 31, 27, 23, 19, 15, 11, 7, 2);
        row(x, ALL_LAYOUTS - 1, 31, 27, 23, 19, 15, 11, 7, 3);
        FingerRows strange = Check.told(STRANGE);
        row(strange, 0, 0, 4, 8, 12, 16, 20, 24, 28);
        row(strange, ALL_LAYOUTS - 1, 31, 27, 23, 19, 15, 11, 7, 3);
        FingerRows one = Check.told(ONE);
        for (int k = 0; k < 4; k++) {
            row(one, k, k);
        }
        // three rays of net 2, LOW as it may be: behind a gap the other two must join, behind a join all may stand
        FingerRows star = Check.told(pairs("1 2 low 9 9", "2 3 low 9 9", "2 4 low 9 9"));
        int[][] rows = {{0, 0, 4, 8}, {3, 0, 4, 11}, {4, 0, 5, 8}, {5, 0, 5, 10}, {6, 0, 6, 8}, {10, 0, 7, 8}, {12, 0, 8, 4},
            {16, 0, 9, 4}, {17, 0, 9, 6}, {23, 0, 11, 6}, {24, 1, 5, 8}, {25, 1, 5, 10}, {26, 1, 7, 8}, {28, 1, 9, 4},
            {31, 1, 11, 6}, {32, 2, 4, 8}, {63, 3, 11, 6}, {64, 4, 0, 8}};
        for (int[] due : rows) {
            row(star, due[0], due[1], due[2], due[3]);
        }
        FingerRows two = Check.told(ONE + ";pair 0 up 2 5 low 4 6");
        row(two, 0, 0, 4);
        row(two, 1, 7, 3);
    }

    private static void bestEdges() {
        Check.says("Of the k-th BEST (0 the first) the FINGER of a place (turn false), or its TURN. "
            + "IllegalArgumentException: there is no such one.");
        FingerRows one = Check.told(ONE);
        for (long k : new long[] {-1, 4, 5, 1L << 32, (1L << 32) + 3, Integer.MIN_VALUE, Long.MIN_VALUE, Long.MAX_VALUE}) {
            Check.dueThrow("k " + k, NO_ARGUMENT, () -> one.best(k, 0, true));
            Check.dueThrow("k " + k, NO_ARGUMENT, () -> one.best(k, 0, false));
        }
        FingerRows free = Check.told(FREE);
        for (long k : new long[] {-1, ALL_LAYOUTS, ALL_LAYOUTS + 1, 1L << 32, (int) ALL_LAYOUTS, Long.MAX_VALUE}) {
            Check.dueThrow("k " + k, NO_ARGUMENT, () -> free.best(k, 7, true));
        }
        for (int place : outside(8)) {
            Check.dueThrow("place " + place, NO_INDEX, () -> free.best(0, place, false));
            Check.dueThrow("place, both wrong " + place, NO_INDEX, () -> free.best(-1, place, false));
        }
        Check.dueThrow("place 1 of one", NO_INDEX, () -> one.best(0, 1, false));
        Check.dueThrow("without FINGERS there is no place", NO_INDEX, () -> new FingerRows().best(0, 0, false));
        Check.dueThrow("without FINGERS there is no place", NO_INDEX, () -> new FingerRows().best(1, 0, false));
    }

    private static void calm() {
        Check.says("CALM: the fewest BREAKS of BEST ones.");
        Check.due("no GAPS", 0, Check.told(FREE).calm());
        Check.due("one", 0, Check.told(ONE).calm());
        Check.due("without FINGERS", 0, new FingerRows().calm());
        Check.due("the most", 14, Check.told(STRANGE).calm());
        Check.due("half of these", 7, Check.told(HALF).calm());
        // no two join; of one row all meet in one order and turned so alone, or but for the last one
        String[] chains = {"0 0 low 8 9", "1 1 low 9 10", "2 2 low 11 10"};
        Check.due("LOW meets", 2, Check.told(pairs(chains)).calm());
        String[] torn = {"0 0 low 8 9", "1 1 low 9 10", "2 2 low 11 11"};
        Check.due("LOW meets but for one", 3, Check.told(pairs(torn)).calm());
        String[] upper = {"8 9 low 0 0", "9 10 low 1 1", "11 10 low 2 2", "11 7 low 3 3"};
        Check.due("UP meets", 3, Check.told(pairs(upper)).calm());
        String[] mixed = {"8 9 low 0 0", "9 10 low 1 1", "3 3 low 1 4", "5 5 low 6 7"};
        Check.due("UP, then LOW, then none", 4, Check.told(pairs(mixed)).calm());
        // the middle one meets one by UP, the other by LOW, turned
        String[] middle = {"2 4 low 0 2", "4 1 low 3 4", "0 3 low 3 3"};
        Check.due("UP meets, then LOW", 2, Check.told(pairs(middle)).calm());
        // more GAPS could have fewer BREAKS: these are no BEST ones
        FingerRows x = Check.told("cell 1 1;pair 0 up 0 4 low 4 2;pair 0 up 0 3 low 4 3;pair 0 up 1 1 low 4 1"
            + ";pair 0 up 0 0 low 0 0");
        Check.due("LEAST", 2, x.least());
        Check.due("of BEST ones", 4, x.calm());
        x.move(2, 0);
        x.move(3, 2);
        x.turn(0, 2);
        x.turn(1, 1);
        Check.due("GAPS of another one", 3, x.layout(0));
        Check.due("BREAKS of another one", 3, x.layout(1));
    }

    private static void with() {
        Check.says("WITH two FINGERS: the fewest GAPS of all LAYOUTS in which the first is in place 0, and "
            + "the second in the last place; none, if both are one and there are more.");
        Check.due("one alone", 0, Check.told(ONE).with(0, 0));
        String two = ONE + ";pair 0 up 2 5 low 4 6";
        int[][] ends = {{-1, 0}, {0, -1}};
        int[][] chain = {{-1, 1, 0}, {1, -1, 1}, {0, 1, -1}};
        for (int first = 0; first < 8; first++) {
            for (int last = 0; last < 8; last++) {
                if (first < 2 && last < 2) {
                    Check.due("of two", ends[first][last], Check.told(two).with(first, last));
                }
                if (first < 3 && last < 3) {
                    Check.due("of a chain", chain[first][last], Check.told(CHAIN).with(first, last));
                }
                Check.due("of free ones", first == last ? -1 : 0, Check.told(FREE).with(first, last));
                Check.due("of strange ones", first == last ? -1 : 7, Check.told(STRANGE).with(first, last));
            }
        }
        FingerRows x = Check.told(FREE);
        for (int wrong : outside(8)) {
            Check.dueThrow("first " + wrong, NO_INDEX, () -> x.with(wrong, 0));
            Check.dueThrow("last " + wrong, NO_INDEX, () -> x.with(0, wrong));
            Check.dueThrow("both " + wrong, NO_INDEX, () -> x.with(wrong, wrong));
        }
        Check.dueThrow("without FINGERS", NO_INDEX, () -> new FingerRows().with(0, 0));
        Check.dueThrow("1 of one", NO_INDEX, () -> Check.told(ONE).with(0, 1));
    }

    private static void bounds(int up, String... pairs) {
        StringBuilder text = new StringBuilder("cell 1 1");
        StringBuilder turned = new StringBuilder("cell 1 1");
        for (String pair : pairs) {
            text.append(";pair 0 up ").append(pair).append(" low 11 11");
            turned.append(";pair 0 up 11 11 low ").append(pair);
        }
        String all = String.join(", ", pairs);
        Check.due("UP " + all, up, Check.told(text.toString()).bound(true));
        Check.due("LOW beside " + all, 0, Check.told(text.toString()).bound(false));
        Check.due("LOW " + all, up, Check.told(turned.toString()).bound(false));
        Check.due("UP beside " + all, 0, Check.told(turned.toString()).bound(true));
    }

    private static void bound() {
        Check.says("(a FINGER whose both NETS are one has it twice), by 2, 1 at least; together, less 1 (0 "
            + "without FINGERS).");
        bounds(0, "1 2");
        bounds(0, "1 1");
        bounds(0, "1 2", "2 3");
        bounds(0, "1 2", "2 1");
        bounds(0, "1 2", "1 2");
        bounds(1, "1 2", "3 4");
        bounds(1, "1 1", "2 2");
        bounds(1, "1 1", "2 3");
        bounds(0, "1 1", "1 2");
        bounds(1, "0 1", "0 2", "0 3");
        bounds(1, "0 1", "0 2", "0 3", "0 4");
        bounds(2, "0 1", "0 2", "0 3", "0 4", "0 5");
        bounds(2, "0 1", "0 2", "0 3", "0 4", "0 5", "0 0");
        bounds(3, "0 1", "0 2", "0 3", "0 4", "0 5", "0 6", "0 7");
        bounds(3, "0 1", "0 2", "0 3", "0 4", "0 5", "0 6", "0 7", "0 8");
        bounds(7, "0 0", "1 1", "2 2", "3 3", "4 4", "5 5", "6 6", "7 7");
        bounds(4, "0 1", "0 2", "0 3", "4 4", "5 5", "6 7");
        // tied by later ones alone
        bounds(0, "0 1", "2 3", "4 5", "6 7", "5 6", "3 4", "1 2");
        bounds(0, "7 8", "6 7", "5 6", "4 5", "3 4", "2 3", "1 2", "0 1");
        bounds(0, "10 9", "0 1", "8 9", "1 2", "7 8", "2 3", "3 10", "0 7");
        bounds(3, "0 1", "2 3", "4 5", "6 7");
        Check.due("a folded one counts by FINGERS", 0, Check.told("cell 1 1;pair 0 up 1 2 low 1 2 wide 8").bound(true));
        Check.due("a folded one counts by FINGERS", 1,
            Check.told("cell 1 1;pair 0 up 1 2 low 1 2 wide 2;pair 0 up 3 4 low 3 4").bound(true));
        Check.due("a star, one ray twice", 1,
            Check.told("cell 1 1;pair 0 up 0 1 low 9 9 wide 2;pair 0 up 0 2 low 9 9;pair 0 up 0 3 low 9 9;"
                + "pair 0 up 0 4 low 9 9;pair 0 up 0 5 low 9 9").bound(true));
        Check.due("without FINGERS", 0, new FingerRows().bound(true));
        Check.due("without FINGERS", 0, new FingerRows().bound(false));
        Check.due("a CELL without FINGERS", 0, Check.told("cell 1 1;pin 1").bound(true));
    }

    private static void agrees() {
        Check.says("AGREES: whether all BEST ones have as many GAPS as the greater BOUND.");
        Check.due("without FINGERS", true, new FingerRows().agrees());
        Check.due("one", true, Check.told(ONE).agrees());
        Check.due("free ones", true, Check.told(FREE).agrees());
        Check.due("strange ones", true, Check.told(STRANGE).agrees());
        Check.due("UP is the greater one", true, Check.told(HALF).agrees());
        Check.due("LOW is the greater one", true, Check.told(strange("8 8 low F F")).agrees());
        // both rows alone could go without a gap
        FingerRows x = Check.told("cell 1 1;pair 8 up 0 1 low 4 5;pair 8 up 1 2 low 6 7;pair 8 up 2 3 low 5 6");
        Check.due("more than both", false, x.agrees());
        Check.due("by that many", true, x.least() > Math.max(x.bound(true), x.bound(false)));
    }

    private static void ofSet() {
        Check.says("OF A SET of FINGERS: the fewest GAPS of any order of these alone (all TURNS; 0 of none).");
        FingerRows strange = Check.told(STRANGE);
        FingerRows free = Check.told(FREE);
        for (int set = 0; set < 256; set++) {
            Check.due("strange ones " + set, Math.max(0, Integer.bitCount(set) - 1), strange.ofSet(set));
            Check.due("free ones " + set, 0, free.ofSet(set));
        }
        Check.due("none, without FINGERS", 0, new FingerRows().ofSet(0));
        Check.due("turned", 0, Check.told("cell 1 1;pair 0 up 1 2 low 3 4;pair 0 up 5 2 low 4 6").ofSet(3));
        Check.says("OF A SET (as bits). IllegalArgumentException: there is a FINGER in it that there is not.");
        for (int set : new int[] {256, 257, 511, -1, -256, Integer.MIN_VALUE, Integer.MAX_VALUE, 1 << 30, 1 << 16 | 1}) {
            Check.dueThrow("set " + set, NO_ARGUMENT, () -> free.ofSet(set));
        }
        FingerRows chain = Check.told(CHAIN);
        Check.due("all", 0, chain.ofSet(7));
        for (int set : new int[] {8, 9, 15, 128, -8, Integer.MIN_VALUE | 7}) {
            Check.dueThrow("set " + set, NO_ARGUMENT, () -> chain.ofSet(set));
        }
        Check.dueThrow("without FINGERS", NO_ARGUMENT, () -> new FingerRows().ofSet(1));
    }

    private static void parted() {
        Check.says("PARTED by N: of all ways to put N FINGERS into one row, all others into another one (N 0 "
            + "to all), that of the fewest GAPS OF both SETS, together; of several that whose first SET "
            + "is the least, as bits.");
        FingerRows strange = Check.told(STRANGE);
        FingerRows free = Check.told(FREE);
        for (int n = 0; n <= 8; n++) {
            Check.due("GAPS by " + n, n == 0 || n == 8 ? 7 : 6, strange.parted(n, false));
            Check.due("SET by " + n, (1 << n) - 1, strange.parted(n, true));
            Check.due("no GAPS by " + n, 0, free.parted(n, false));
            Check.due("SET by " + n, (1 << n) - 1, free.parted(n, true));
        }
        // 0 joins 2, 1 joins 3, no other two do: by 2 these, by 1 or 3 the least of those that leave one GAP
        FingerRows x = Check.told("cell 1 1;pair 0 up 1 2 low 9 9;pair 0 up 3 4 low 9 9;pair 0 up 2 5 low 9 9;pair 0 up 4 6 low 9 9");
        int[] gaps = {1, 1, 0, 1, 1};
        int[] sets = {0, 1, 5, 7, 15};
        for (int n = 0; n <= 4; n++) {
            Check.due("GAPS by " + n, gaps[n], x.parted(n, false));
            Check.due("SET by " + n, sets[n], x.parted(n, true));
        }
        Check.says("PARTED: the GAPS (which false), or the first SET. IllegalArgumentException: n is none.");
        for (int n : outside(5)) {
            Check.dueThrow("by " + n, NO_ARGUMENT, () -> x.parted(n, false));
            Check.dueThrow("by " + n, NO_ARGUMENT, () -> x.parted(n, true));
        }
        for (int n : outside(9)) {
            Check.dueThrow("by " + n, NO_ARGUMENT, () -> free.parted(n, true));
        }
        Check.due("without FINGERS", 0, new FingerRows().parted(0, false));
        Check.due("without FINGERS", 0, new FingerRows().parted(0, true));
        Check.dueThrow("without FINGERS", NO_ARGUMENT, () -> new FingerRows().parted(1, true));
    }

    private static void dearest() {
        Check.says("DEAREST: the FINGER without which (OF the SET of all others) there are the fewest GAPS, "
            + "of several the least; none without FINGERS.");
        Check.due("without a CELL", -1, new FingerRows().dearest());
        Check.due("without FINGERS", -1, Check.told("cell 1 1").dearest());
        Check.due("one", 0, Check.told(ONE).dearest());
        Check.due("of several the least", 0, Check.told(FREE).dearest());
        Check.due("of several the least", 0, Check.told(STRANGE).dearest());
        String free = ";pair 0 up 1 1 low 1 1";
        for (int at = 0; at < 8; at++) {
            Check.due("the odd one", at,
                Check.told("cell 1 1" + free.repeat(at) + ";pair 0 up 2 2 low 1 1" + free.repeat(7 - at)).dearest());
        }
    }

    private static void tiesAndLonely() {
        Check.says("how many such pairs (both ways counted); LONELY: FINGERS that JOIN nobody so, either "
            + "way, as bits.");
        Check.due("none", 0, new FingerRows().ties());
        Check.due("none", 0, new FingerRows().lonely());
        Check.due("one", 0, Check.told(ONE).ties());
        Check.due("one", 1, Check.told(ONE).lonely());
        Check.due("one that could join itself", 1, Check.told("cell 1 1;pair 0 up 1 1 low 1 1").lonely());
        Check.due("one that could join itself", 0, Check.told("cell 1 1;pair 0 up 1 1 low 1 1").ties());
        Check.due("all", 56, Check.told(FREE).ties());
        Check.due("nobody", 0, Check.told(FREE).lonely());
        Check.due("no two", 0, Check.told(STRANGE).ties());
        Check.due("everybody", 255, Check.told(STRANGE).lonely());
        Check.due("half is none", 0, Check.told(HALF).ties());
        Check.due("half is none", 255, Check.told(HALF).lonely());
        Check.due("a chain", 4, Check.told(CHAIN).ties());
        Check.due("a chain", 0, Check.told(CHAIN).lonely());
        // one turn of each alone, and the other way round
        Check.due("as they are", 2, Check.told(ONE + ";pair 0 up 2 5 low 4 6").ties());
        Check.due("as they are", 0, Check.told(ONE + ";pair 0 up 2 5 low 4 6").lonely());
        FingerRows x = Check.told("cell 1 1;pair 0 up 1 2 low 3 4;pair 0 up 5 6 low 7 8;pair 0 up 9 1 low 3 10");
        Check.due("by a TURN", 2, x.ties());
        Check.due("but the middle one", 2, x.lonely());
        String lonely = ";pair 0 up 2 2 low 2 2";
        Check.due("the last one", 128, Check.told("cell 1 1" + ";pair 0 up 1 1 low 1 1".repeat(7) + lonely).lonely());
        Check.due("without it", 42, Check.told("cell 1 1" + ";pair 0 up 1 1 low 1 1".repeat(7) + lonely).ties());
    }

    private static void advice(String text, FingerRows x, int... want) {
        for (int what = 0; what < 4; what++) {
            Check.due(text + " " + what, want[what], x.better(what));
        }
    }

    private static void better() {
        Check.says("BETTER: what 0 GAPS then, 1 1 if by TURNED, 2 if by MOVED, 2 the place, 3 the TURN, or "
            + "the place it goes to; NONE without FINGERS. NoSuchElementException: another what.");
        advice("without a CELL", new FingerRows(), -1, -1, -1, -1);
        advice("without FINGERS", Check.told("cell 1 1"), -1, -1, -1, -1);
        FingerRows one = Check.told(ONE);
        advice("one", one, 0, 1, 0, 1);
        one.turn(0, 1);
        advice("one, turned: not the TURN that it has", one, 0, 1, 0, 0);
        for (int what : outside(4)) {
            Check.dueThrow("what " + what, NO_ELEMENT, () -> one.better(what));
            Check.dueThrow("without FINGERS, what " + what, NO_ELEMENT, () -> new FingerRows().better(what));
        }
    }

    private static void betterOrder() {
        Check.says("the first of several (all TURNED ahead of all MOVED; by the place, then by the TURN or "
            + "the place it goes to).");
        // whatever is done, the two are parted: it is told nevertheless
        advice("worse", Check.told(ONE + ";pair 0 up 2 5 low 4 6"), 1, 1, 0, 1);
        advice("8 strange ones", Check.told(STRANGE), 7, 1, 0, 1);
        // finger 0 ends with 2 and 4; of finger 1 LOW must be turned
        advice("the second place", Check.told(ONE + ";pair 0 up 2 5 low 6 4"), 0, 1, 1, 2);
        advice("the last TURN", Check.told(ONE + ";pair 0 up 5 2 low 6 4"), 0, 1, 1, 3);
        FingerRows back = Check.told(ONE + ";pair 0 up 2 5 low 4 6");
        back.turn(1, 3);
        advice("TURN 0", back, 0, 1, 1, 0);
        // 1 ahead of 0 would join; no turn does
        advice("MOVED", Check.told("cell 1 1;pair 0 up 1 2 low 3 4;pair 0 up 5 1 low 6 3"), 0, 2, 0, 1);
        FingerRows chain = Check.told(CHAIN);
        chain.move(2, 0);
        advice("MOVED to the last place", chain, 0, 2, 0, 2);
        FingerRows other = Check.told(CHAIN);
        other.move(0, 2);
        advice("MOVED to the first place", other, 0, 2, 2, 0);
        // a TURN is as good as any move
        advice("all TURNED ahead", Check.told(FREE), 0, 1, 0, 1);
    }

    private static void shortest() {
        Check.says("SHORT of N (1 to 20): of the first N BEST ones (of all, if there are fewer) that of the "
            + "least LENGTH, of several the first.");
        String[] texts = {ONE, ONE + ";pair 0 up 2 5 low 4 6", CHAIN, STRANGE, FREE, CHAIN + ";pin 8;pin 3;rail 9",
            // the second is the shortest
            "cell 1 1;pair 2 up 1 4 low 0 5;pair 3 up 1 4 low 5 4",
            // the 20th is the shortest of 20
            "cell 1 1;pair 5 up 0 5 low 5 7;pair 4 up 1 4 low 1 4;pair 5 up 2 2 low 5 4",
            // the 21st is shorter
            "cell 1 1;pair 7 up 0 5 low 5 6;pair 5 up 2 4 low 3 4;pair 5 up 3 1 low 2 6"};
        for (String text : texts) {
            FingerRows x = Check.told(text);
            FingerRows laid = Check.told(text);
            int least = Integer.MAX_VALUE;
            int first = -1;
            for (int k = 0; k < 20; k++) {
                if (k < x.many()) {
                    laid.lay(k);
                    first = laid.layout(9) < least ? k : first;
                    least = Math.min(least, laid.layout(9));
                }
                Check.due("SHORT of " + (k + 1) + " of " + text, first, x.shortest(k + 1, false));
                Check.due("LENGTH of " + (k + 1) + " of " + text, least, x.shortest(k + 1, true));
            }
        }
        Check.due("the second", 1, Check.told(texts[6]).shortest(2, false));
        Check.due("the 20th counts", 19, Check.told(texts[7]).shortest(20, false));
        Check.due("not for 19", true, Check.told(texts[7]).shortest(19, false) < 19);
        FingerRows more = Check.told(texts[8]);
        more.lay(20);
        Check.due("the 21st would be shorter", true, more.layout(9) < more.shortest(20, true));
        Check.says("SHORT: the number of it (0 the first; length false), or its LENGTH. "
            + "IllegalArgumentException: n is none.");
        for (int n : new int[] {0, -1, 21, 22, 256 + 1, Integer.MIN_VALUE, Integer.MAX_VALUE, Integer.MIN_VALUE + 1}) {
            Check.dueThrow("of " + n, NO_ARGUMENT, () -> more.shortest(n, true));
            Check.dueThrow("of " + n, NO_ARGUMENT, () -> more.shortest(n, false));
            Check.dueThrow("without FINGERS of " + n, NO_ARGUMENT, () -> new FingerRows().shortest(n, false));
        }
        for (int n = 1; n <= 20; n++) {
            Check.due("without FINGERS", 0, new FingerRows().shortest(n, false));
            Check.due("without FINGERS", 0, new FingerRows().shortest(n, true));
        }
    }

    private static void neighbours() {
        Check.says("NEIGHBOURS of two FINGERS: in how many BEST ones they stand side by side.");
        FingerRows free = Check.told(FREE);
        FingerRows strange = Check.told(STRANGE);
        for (int one = 0; one < 8; one++) {
            for (int two = 0; two < 8; two++) {
                if (one != two) {
                    Check.due("free ones", ALL_LAYOUTS / 4, free.neighbours(one, two));
                    Check.due("strange ones", ALL_LAYOUTS / 4, strange.neighbours(one, two));
                }
            }
        }
        FingerRows two = Check.told("cell 1 1;pair 0 up 1 1 low 1 1 wide 2");
        Check.due("two: always", 32, two.neighbours(1, 0));
        FingerRows chain = Check.told(CHAIN);
        Check.due("never", 0, chain.neighbours(0, 2));
        Check.due("never", 0, chain.neighbours(2, 0));
        Check.due("always", 16, chain.neighbours(1, 2));
        Check.says("NEIGHBOURS. IllegalArgumentException: both are one.");
        for (int wrong : outside(3)) {
            Check.dueThrow("first " + wrong, NO_INDEX, () -> chain.neighbours(wrong, 0));
            Check.dueThrow("second " + wrong, NO_INDEX, () -> chain.neighbours(0, wrong));
            Check.dueThrow("both " + wrong, NO_INDEX, () -> chain.neighbours(wrong, wrong));
        }
        for (int finger = 0; finger < 3; finger++) {
            final int both = finger;
            Check.dueThrow("both " + both, NO_ARGUMENT, () -> chain.neighbours(both, both));
        }
        Check.dueThrow("one alone", NO_ARGUMENT, () -> Check.told(ONE).neighbours(0, 0));
        Check.dueThrow("without FINGERS", NO_INDEX, () -> new FingerRows().neighbours(0, 0));
    }

    private static void starts() {
        Check.says("STARTS of a FINGER: how many BEST ones have it in place 0.");
        FingerRows free = Check.told(FREE);
        for (int finger = 0; finger < 8; finger++) {
            Check.due("free ones", ALL_LAYOUTS / 8, free.starts(finger));
            Check.due("strange ones", ALL_LAYOUTS / 8, Check.told(STRANGE).starts(finger));
        }
        FingerRows chain = Check.told(CHAIN);
        Check.due("an end", 8, chain.starts(0));
        Check.due("none", 0, chain.starts(1));
        Check.due("the other end", 8, chain.starts(2));
        Check.due("one", 4, Check.told(ONE).starts(0));
        for (int wrong : outside(8)) {
            Check.dueThrow("finger " + wrong, NO_INDEX, () -> free.starts(wrong));
        }
        for (int wrong : outside(3)) {
            Check.dueThrow("finger " + wrong, NO_INDEX, () -> chain.starts(wrong));
        }
        Check.dueThrow("without FINGERS", NO_INDEX, () -> new FingerRows().starts(0));
    }

    private static void noSuchPair() {
        Check.says("Without a CELL there are no PAIRS, no NETS that are told.");
        FingerRows x = new FingerRows();
        for (int what = -1; what <= 7; what++) {
            final int one = what;
            for (int pair : outside(1)) {
                Check.dueThrow("pair " + pair + " " + what, NO_INDEX, () -> x.pair(pair, one));
            }
            Check.dueThrow("pair 0 " + what, NO_INDEX, () -> x.pair(0, one));
        }
        FingerRows full = Check.told(STRANGE);
        for (int pair : outside(8)) {
            Check.dueThrow("pair " + pair, NO_INDEX, () -> full.pair(pair, 0));
            Check.dueThrow("pair, both wrong " + pair, NO_INDEX, () -> full.pair(pair, 7));
        }
        for (int what : outside(7)) {
            Check.dueThrow("what " + what, NO_ELEMENT, () -> full.pair(0, what));
            Check.dueThrow("what " + what, NO_ELEMENT, () -> full.pair(7, what));
        }
    }

    private static void changedByHand() {
        Check.says("LEAST: the fewest GAPS of any LAYOUT.");
        FingerRows full = Check.told(STRANGE);
        full.mirror();
        full.turn(3, 2);
        Check.due("LEAST is of all LAYOUTS", 7, full.least());
        Check.due("MANY is of all LAYOUTS", ALL_LAYOUTS, full.many());
        row(full, 0, 0, 4, 8, 12, 16, 20, 24, 28);
    }

    /** All orders are of the latest text: nothing of the ones before may be left, of whatever size these were. */
    private static void behindAnotherText() {
        Check.says("It is told by a text, in place of the one before");
        String[] texts = {FREE, ONE, STRANGE, "cell 1 1", "cell 1 1;pair 0 up 0 0 low 0 0 wide 8", CHAIN,
            pairs("1 0 low 1 0", "2 3 low 2 3"), HALF, pairs("11 11 low 11 11", "11 0 low 0 11")};
        for (String before : texts) {
            for (String text : texts) {
                FingerRows x = new FingerRows();
                for (String one : new String[] {before, before, text}) {
                    Check.feed(x, one);
                    x.cell();
                }
                new State(Check.told(text)).stays(x, text + " behind " + before);
            }
        }
    }
}
