import java.util.NoSuchElementException;

/** Each promise with ordinary inputs, the edges that the document names, and wrong inputs, reckoned by hand. */
public final class PromiseTest {
    private static final Class<IndexOutOfBoundsException> NO_INDEX = IndexOutOfBoundsException.class;
    private static final Class<IllegalArgumentException> NO_ARGUMENT = IllegalArgumentException.class;
    private static final Class<IllegalStateException> NO_STATE = IllegalStateException.class;
    private static final Class<NoSuchElementException> NO_ELEMENT = NoSuchElementException.class;

    // finger 0: up 1-4, low 0-5; finger 1: up 1-4, low 5-4; they join by turns (0, 1): columns
    // up   1 . 4 . 1
    // low  0 . 5 . 4
    // gate . 2 . 3 .
    private static final String TWO = "cell 1 1;pair 2 up 1 4 low 0 5;pair 3 up 1 4 low 5 4";
    private static final String RAILED = TWO + ";rail 0;rail 1;pin 4;pin 2";
    // two fingers that share no net
    private static final String APART = "cell 1 1;pair 2 up 1 4 low 0 5;pair 3 up 6 7 low 8 9";
    // three fingers in a chain: 0-1, 1-2, 2-3 of UP, and all 9 of LOW
    private static final String CHAIN = "cell 1 1;pair 8 up 0 1 low 9 9;pair 8 up 1 2 low 9 9;pair 8 up 2 3 low 9 9";

    public static void main(String[] args) {
        promises1To5();
        promise4Texts();
        promise4Ends();
        promise4Limits();
        promises6To8();
        promise9();
        promise10();
        promises11To14();
        promises15To17();
        promises18To22();
        promises23And24();
        promises25And26();
        promises27To29();
        promises30And31();
        promises32And33();
        promises34To36();
        Check.close();
    }

    private static void promises1To5() {
        FingerRows x = new FingerRows();
        Check.due("1: no pairs", 0, x.count(0));
        Check.due("1: no fingers", 0, x.count(1));
        Check.due("1: no unit", 0, x.count(5));
        Check.due("1: no columns", 0, x.layout(2));
        Check.due("5: ahead of any text", -1, x.fault());
        for (int i = 1; i <= 20; i++) {
            Check.due("2: feed", 20 * i, x.feed(0, 0, 0, 0, 0));
        }
        Check.due("2: a full tape", -1, x.feed(0, 0, 0, 0, 0));
        Check.due("3: more than there are", false, x.end(401));
        Check.due("3: all", true, x.end(400));
        Check.due("2: none came", -1, x.feed(0, 0, 0, 0, 0));
        Check.due("3: below 0", false, x.end(-1));
        Check.due("3: 381", true, x.end(381));
        Check.due("2: one byte too many", -1, x.feed(0, 0, 0, 0, 0));
        Check.due("3: it has 381 still", false, x.end(382));
        Check.due("3: 380", true, x.end(380));
        Check.due("2: just as many", 400, x.feed(0, 0, 0, 0, 0));
        Check.due("3: none", true, x.end(0));
        Check.dueThrow("4: an empty text", NO_ARGUMENT, () -> x.cell());
        Check.due("5: of an empty text", 0, x.fault());
        x.feed(0x63656c6c, 0x31203120, 0x20202020, 0x20202020, 0x20202020);
        Check.due("4: highest byte first", 0, x.cell());
        Check.due("5: of a right text", -1, x.fault());
        Check.due("4: the tape is used up", false, x.end(1));
        Check.feed(x, TWO);
        Check.due("4: fingers", 2, x.cell());
        Check.due("5: a wrong one", 5, Check.faultOf(x, "cell 0 1"));
        Check.due("4: a wrong text uses the tape up", false, x.end(1));
        Check.due("4: of a wrong text nothing stays", 2, x.count(1));
        Check.due("5: fault stays", 5, x.fault());
    }

    private static void promise4Texts() {
        FingerRows x = new FingerRows();
        String[] right = {"cell1 1", "  cell  9  4  ", "cell 01 04", "cell1 1;pair1up1 2low3 4wide5;rail2;pin2",
            " cell 1 1 ; pair 11 up 0 11 low 11 0 wide 08 ; block 11 40 40 ; block 0 0 0", "cell 9 1;rail 5;pin 5",
            "cell 9 1;pair 1 up 1 1 low 1 1 wide 40;block 3 7 7;rail 0;rail 1;rail 2;rail 3;rail 4;rail 5;rail 6"};
        for (String text : right) {
            Check.due("4: right " + text, -2, Check.faultOf(x, text));
        }
        Object[][] wrong = {{"", 0}, {"   ", 3}, {"cel 1 1", 0}, {"cells 1 1", 0}, {"cellz 1 1", 0}, {"zcell 1 1", 0}, {"cell{1 1", 4}, {"cell`1 1", 4}, {"cell 1 1:", 8},
            {"cell 1 1/", 8}, {" Cell 1 1", 1}, {"cell", 4},
            {"cell ;", 5}, {"cell 001 1", 5}, {"cell 10 1", 5}, {"cell 1 0", 7}, {"cell 1 1 1", 9}, {"cell 11", 5},
            {"cell 1 1 ;", 10}, {"cell 1 1;;", 9}, {"cell 1 1;foo 1", 9}, {"cell 1 1;cell 1 1", 9},
            {"cell 1 1;up 1", 9}, {"cell 1 1;5", 9}, {"cell 1 1\t", 8}, {"cell 1 1;rail", 13}, {"cell 1 1;rail 12", 14},
            {"cell 1 1;rail x", 14}, {"cell 1 1;pin 3;pin 3", 19}, {"cell 1 1;pin 3;pin 03", 19},
            {"cell 1 1;rail 3 4", 16}, {"cell 1 1;block 12 0 0", 15}, {"cell 1 1;block 0 41 41", 17},
            {"cell 1 1;block 0 5 41", 19}, {"cell 1 1;block 0 5 4", 19}, {"cell 1 1;block 0 5", 18},
            {"cell 1 1;pair 1 up 1 2 low 3", 28}, {"cell 1 1;pair 1 up 1 2 low 3 4 wide", 35},
            {"cell 1 1;pair 1 up 1 2 low 3 4 wide 41", 36}, {"cell 1 1;pair 1 up 1 2 low 3 4 wide 0", 36},
            {"cell 1 1;pair 1 up 1 2 low 3 4 wider 1", 31}, {"cell 1 1;pair 1 up 1 2 low 3 4 wide 9", 9},
            {"cell 4 1;pair 1 up 1 2 low 3 4 wide 33", 9}, {"cell 1 1;pair 1 up 1 2 low 3 4 wide 9;foo", 9},
            {"cell 1 1;pair 1 up 1 2 low 3 4 5", 31}, {"cell 1 1;pair 12 up 1 2 low 3 4", 14},
            {"cell 1 1;pair 1 low 1 2 up 3 4", 16}, {"cell 1 1;pair 1 up 1 12 low 3 4", 21}, {"cell 1 1\u00a0", 8}};
        for (Object[] one : wrong) {
            Check.due("5: " + one[0], (Integer) one[1], Check.faultOf(x, (String) one[0]));
        }
        Check.due("4: the last right one stays", 7, Integer.bitCount(x.count(2)));
    }

    /** What is behind the end of the tape, of this text or an older one, is no part of the text. */
    private static void promise4Ends() {
        String[] beyond = {"cell 1 1;railxxxxxxx", "cell 1 1;rail 111111", "cell 1 1;rail 1 1 1 "};
        int[] ends = {13, 15, 16};
        int[] faults = {13, -2, -2};
        for (int i = 0; i < beyond.length; i++) {
            FingerRows x = new FingerRows();
            Check.feed(x, beyond[i]);
            x.end(ends[i]);
            Check.due("4: an end in " + beyond[i], faults[i], Check.faultOfTape(x));
        }
        FingerRows x = new FingerRows();
        Check.faultOf(x, "cell 1 1;rail 1;rail 2;rail 3;rail 4;rail 5");
        Check.due("5: an older text behind", 20, Check.faultOf(x, "cell 1 1;rail 2;rail"));
        Check.due("5: an older text behind", 40, Check.faultOf(x, "cell 1 1;rail 2;rail 1;pin 0;pin 1;pin  "));
    }

    private static void promise4Limits() {
        FingerRows x = new FingerRows();
        String pair = ";pair 1 up 1 2 low 3 4";
        String lines = ";block 0 0 0".repeat(6) + ";rail 0;rail 1;rail 2;rail 3;rail 4;rail 5;rail 6;rail 7;pin 0;pin 1"
            + ";pin 2;pin 3;pin 4;pin 5";
        String full = "cell 1 1" + lines;
        Check.due("4: 20 lines", -2, Check.faultOf(x, full));
        Check.due("5: a line too many", full.length() + 2, Check.faultOf(x, full + "; rail 9"));
        Check.due("5: none behind 20 lines", full.length() + 1, Check.faultOf(x, full + ";"));
        String eight = "cell 1 1" + pair.repeat(8);
        Check.due("4: 8 pairs", -2, Check.faultOf(x, eight));
        Check.due("5: a pair too many", eight.length() + 1, Check.faultOf(x, eight + ";pair x"));
        String folded = "cell 5 1" + pair + " wide 36";
        Check.due("4: 8 fingers of one", -2, Check.faultOf(x, folded));
        Check.due("4: they are 8", 8, x.count(1));
        Check.due("5: one finger too many", folded.length() + 1, Check.faultOf(x, folded + pair));
        Check.due("5: eight and one wider", folded.length() + 1, Check.faultOf(x, folded + pair + " wide 40;x"));
        Check.due("5: a wrong pair is none", folded.length() + 8, Check.faultOf(x, folded + ";pair 1 low"));
        String blocks = "cell 1 1" + ";block 0 0 0".repeat(6);
        Check.due("5: a block too many", blocks.length() + 1, Check.faultOf(x, blocks + ";block 99"));
        String pins = "cell 1 1;pin 0;pin 1;pin 2;pin 3;pin 4;pin 5";
        Check.due("5: a pin too many", pins.length() + 1, Check.faultOf(x, pins + ";pin 0"));
    }

    private static void promises6To8() {
        FingerRows x = Check.told("cell 2 1;pair 5 up 1 4 low 0 6 wide 5;pair 7 up 4 8 low 6 9;rail 1");
        int[] first = {5, 1, 4, 0, 6, 5, 7};
        int[] second = {7, 4, 8, 6, 9, 1, 8};
        for (int what = 0; what < 7; what++) {
            Check.due("6: pair 0 " + what, first[what], x.pair(0, what));
            Check.due("6: pair 1 " + what, second[what], x.pair(1, what));
        }
        Check.dueThrow("6: no pair", NO_INDEX, () -> x.pair(2, 9));
        Check.dueThrow("6: no pair", NO_INDEX, () -> x.pair(-1, 0));
        Check.dueThrow("6: no what", NO_ELEMENT, () -> x.pair(0, 7));
        Check.dueThrow("6: no what", NO_ELEMENT, () -> x.pair(0, -1));

        // fingers 0 to 2 do not join (4 is not 1), 2 joins 3
        int[][] places = {{0, 0, 0, 1, 0, 1}, {1, 0, 0, 4, 0, 1}, {2, 0, 0, 7, 1, 1}, {3, 1, 0, 9, 0, 1}};
        for (int place = 0; place < 4; place++) {
            for (int what = 0; what < 6; what++) {
                Check.due("7: at " + place + " " + what, places[place][what], x.at(place, what));
            }
        }
        x.turn(1, 3);
        Check.due("7: turn", 3, x.at(1, 2));
        Check.due("7: 0 joins 1 turned", 1, x.at(0, 4));
        Check.due("7: gate behind a join", 3, x.at(1, 3));
        Check.dueThrow("7: no place", NO_INDEX, () -> x.at(4, 9));
        Check.dueThrow("7: no place", NO_INDEX, () -> x.at(-1, 0));
        Check.dueThrow("7: no what", NO_ELEMENT, () -> x.at(0, 6));
        Check.dueThrow("7: no what", NO_ELEMENT, () -> x.at(0, -1));

        // now all join; wires: 0 from 0 to 4, 5 from 1 to 5, 4 and 6 from 2 to 6; 1 is a rail
        int[][] columns = {{1, 0, -1, 1}, {-1, -1, 5, 2}, {4, 6, -1, 4}, {-1, -1, 5, 4}, {1, 0, -1, 4},
            {-1, -1, 5, 3}, {4, 6, -1, 2}, {-1, -1, 7, 0}, {8, 9, -1, 0}};
        for (int column = 0; column < columns.length; column++) {
            for (int what = 0; what < 4; what++) {
                Check.due("8: column " + column + " " + what, columns[column][what], x.column(column, what));
            }
        }
        Check.dueThrow("8: no column", NO_INDEX, () -> x.column(9, 9));
        Check.dueThrow("8: no column", NO_INDEX, () -> x.column(-1, 0));
        Check.dueThrow("8: no what", NO_ELEMENT, () -> x.column(0, 4));
        Check.dueThrow("8: no what", NO_ELEMENT, () -> x.column(0, -1));
    }

    private static void net(String text, FingerRows x, int net, int... want) {
        for (int what = 0; what < want.length; what++) {
            Check.due("9: " + text + ", net " + net + " " + what, want[what], x.net(net, what));
        }
    }

    private static void promise9() {
        FingerRows x = Check.told(RAILED);
        x.lay(0);
        net("pitch 1", x, 4, 2, 4, 2, 0, 1, 2, 2, 4, 0);
        net("pitch 1", x, 1, 0, 4, 2, 1, 0, -1, -1, -1, -1);
        net("pitch 1", x, 2, 1, 1, 1, 0, 1, 1, -1, -1, -1);
        net("pitch 1", x, 5, 2, 2, 1, 0, 0, -1, -1, -1, -1);
        net("pitch 1", x, 11, -1, -1, 0, 0, 0, -1, -1, -1, -1);

        // pins 0 and 4 alone: net 2, of column 1, goes to 0 and gets a wire; net 4 has 4 itself
        FingerRows wide = Check.told("cell 1 4" + RAILED.substring(8));
        wide.lay(0);
        net("pitch 4", wide, 2, 1, 1, 1, 0, 1, 0, 0, 1, 0);
        net("pitch 4", wide, 4, 2, 4, 2, 0, 1, 4, 2, 4, 0);

        // three pins, two columns for them: no pinning at all
        FingerRows none = Check.told("cell 1 4" + RAILED.substring(8) + ";pin 3");
        none.lay(0);
        net("no pinning", none, 2, 1, 1, 1, 0, 1, -1, -1, -1, -1);
        net("no pinning", none, 4, 2, 4, 2, 0, 1, -1, 2, 4, 0);

        // a pin that is a rail has a column, but no wire; a pin without a column has none
        FingerRows rail = Check.told("cell 1 3;pair 1 up 2 3 low 2 3;rail 2;pin 2;pin 1;pin 9");
        net("pin of a rail", rail, 2, 0, 0, 1, 1, 1, -1);
        Check.due("9: one column, two pins", -1, rail.layout(10));
        rail = Check.told("cell 1 2;pair 1 up 2 3 low 2 3;rail 2;pin 2;pin 1;pin 9");
        net("pin of a rail", rail, 2, 0, 0, 1, 1, 1, 0, -1, -1, -1);
        net("the least stretch is ahead of the least column", rail, 1, 1, 1, 1, 0, 1, 2, 1, 2, 0);
        net("a pin without a column", rail, 9, -1, -1, 0, 0, 1, -1, -1, -1, -1);
        Check.due("10: stretch", 1, rail.layout(10));
        FingerRows alike = Check.told("cell 1 2;pair 1 up 2 3 low 2 3;pin 1");
        net("of like ways the first", alike, 1, 1, 1, 1, 0, 1, 0, 0, 1, 0);
        Check.dueThrow("9: no net", NO_INDEX, () -> x.net(12, 9));
        Check.dueThrow("9: no net", NO_INDEX, () -> x.net(-1, 0));
        Check.dueThrow("9: no what", NO_ELEMENT, () -> x.net(0, 9));
        Check.dueThrow("9: no what", NO_ELEMENT, () -> x.net(0, -1));
    }

    private static void layout(String text, FingerRows x, int... want) {
        for (int what = 0; what < want.length; what++) {
            Check.due("10: " + text + " " + what, want[what], x.layout(what));
        }
    }

    private static void promise10() {
        FingerRows x = new FingerRows();
        layout("nothing", x, 0, 0, 0, 0, 0, -1, 0, 0, 0, 0, 0, 1);
        layout("one gap", Check.told(RAILED), 1, 1, 6, 2, 2, 2, 2, 0, 2, 4, 0, 0);
        FingerRows best = Check.told(RAILED);
        best.lay(0);
        layout("no gap", best, 0, 0, 5, 1, 1, 2, 1, 0, 1, 2, 0, 0);
        layout("both do not meet", Check.told(APART), 1, 2, 6, 0, 0, -1, 0, 0, 0, 0, 0, 0);
        layout("the same", Check.told("cell 1 1;pair 2 up 1 1 low 3 3"), 0, 0, 3, 2, 2, 0, 2, 0, 2, 4, 0, 1);
        FingerRows pins = Check.told("cell 1 4" + RAILED.substring(8));
        pins.lay(0);
        layout("pins at 0 and 4", pins, 0, 0, 5, 2, 1, 0, 1, 0, 1, 3, 1, 0);
        // tracks 0 and 2 blocked: wires go to 1 and 3
        layout("blocks", Check.told("cell 1 1;pair 2 up 1 1 low 3 3;block 0 2 9;block 2 0 0;block 1 3 40"),
            0, 0, 3, 2, 2, 0, 2, 0, 4, 4, 0, 1);
        layout("lost", Check.told(lostCell()), lostLayout());
        Check.dueThrow("10: no what", NO_ELEMENT, () -> x.layout(12));
        Check.dueThrow("10: no what", NO_ELEMENT, () -> x.layout(-1));
    }

    /** Seven wires over the middle, six tracks blocked there. */
    private static String lostCell() {
        return "cell 1 1;pair 0 up 1 2 low 3 4;pair 5 up 6 6 low 6 6;pair 0 up 1 2 low 3 4;pair 5 up 6 6 low 6 6"
            + ";block 0 0 40;block 1 0 40;block 2 0 40;block 3 0 40;block 4 0 40;block 5 0 40";
    }

    private static int[] lostLayout() {
        // nets 0 to 6 at columns 1,7 | 0,6 | 2,8 | 0,6 | 2,8 | 4,10 | 3,5,9,11: tracks 6 to 11, net 5 is lost
        return new int[] {3, 6, 12, 7, 7, 4, 6, 1, 12, 6 + 6 + 6 + 6 + 6 + 6 + 8, 0, 0};
    }

    private static void promises11To14() {
        FingerRows x = Check.told(TWO);
        Check.due("11: two that join", 0, x.least());
        Check.due("12: two that join", 4, x.many());
        int[][] four = {{0, 0, 1, 1}, {0, 1, 1, 0}, {1, 2, 0, 3}, {1, 3, 0, 2}};
        for (int k = 0; k < 4; k++) {
            Check.due("13: finger 0 of " + k, four[k][0], x.best(k, 0, false));
            Check.due("13: turn 0 of " + k, four[k][1], x.best(k, 0, true));
            Check.due("13: finger 1 of " + k, four[k][2], x.best(k, 1, false));
            Check.due("13: turn 1 of " + k, four[k][3], x.best(k, 1, true));
        }
        Check.dueThrow("13: no place ahead of no k", NO_INDEX, () -> x.best(4, 2, false));
        Check.dueThrow("13: no place", NO_INDEX, () -> x.best(0, -1, false));
        Check.dueThrow("13: no k", NO_ARGUMENT, () -> x.best(4, 0, false));
        Check.dueThrow("13: no k", NO_ARGUMENT, () -> x.best(-1, 0, false));
        Check.dueThrow("13: no k", NO_ARGUMENT, () -> x.best(1L << 32, 0, false));
        Check.due("14: no gaps", 0, x.calm());
        FingerRows apart = Check.told(APART);
        Check.due("11: apart", 1, apart.least());
        Check.due("12: apart", 32, apart.many());
        Check.due("14: apart", 2, apart.calm());
        // UP meets, LOW does not
        Check.due("14: half apart", 1, Check.told("cell 1 1;pair 2 up 1 4 low 0 5;pair 3 up 4 7 low 8 9").calm());
        FingerRows none = new FingerRows();
        Check.due("11: no fingers", 0, none.least());
        Check.due("12: no fingers", 1, none.many());
        Check.due("14: no fingers", 0, none.calm());
        FingerRows all = Check.told("cell 1 1;pair 0 up 1 1 low 1 1 wide 8");
        Check.due("12: 8! * 4 to the 8th", 40320L * 65536L, all.many());
        Check.due("13: the last of them", 0, all.best(40320L * 65536L - 1, 7, false));
        Check.due("13: the last of them", 3, all.best(40320L * 65536L - 1, 7, true));
        Check.due("13: another", 7, all.best(40320L * 65536L - 1, 0, false));
    }

    private static void promises15To17() {
        FingerRows x = Check.told(CHAIN);
        Check.due("15: along the chain", 0, x.with(0, 2));
        Check.due("15: back", 0, x.with(2, 0));
        Check.due("15: a gap", 1, x.with(0, 1));
        Check.due("15: one of three", -1, x.with(1, 1));
        Check.due("15: one alone", 0, Check.told("cell 1 1;pair 0 up 1 2 low 3 4").with(0, 0));
        Check.dueThrow("15: no finger", NO_INDEX, () -> x.with(0, 3));
        Check.dueThrow("15: no finger", NO_INDEX, () -> x.with(-1, 0));
        Check.dueThrow("15: no finger", NO_INDEX, () -> x.with(3, 3));
        Check.due("16: a chain", 0, x.bound(true));
        Check.due("16: loops", 0, x.bound(false));
        Check.due("17: chain", true, x.agrees());
        // UP: a star of three at net 0: four odd ones; LOW: a loop of its own each
        FingerRows star = Check.told("cell 1 1;pair 8 up 0 1 low 5 5;pair 8 up 0 2 low 6 6;pair 8 up 0 3 low 7 7");
        Check.due("16: a star", 1, star.bound(true));
        Check.due("16: three parts", 2, star.bound(false));
        Check.due("17: the greater", true, star.agrees());
        // both rows could go without a gap, but not together
        FingerRows cross = Check.told("cell 1 1;pair 8 up 0 1 low 4 5;pair 8 up 1 2 low 6 7;pair 8 up 2 3 low 5 6");
        Check.due("16: cross up", 0, cross.bound(true));
        Check.due("16: cross low", 0, cross.bound(false));
        Check.due("17: cross", false, cross.agrees());
        Check.due("16: a folded one", 0, Check.told("cell 1 1;pair 8 up 0 1 low 2 2 wide 2").bound(true));
        Check.due("16: no fingers", 0, new FingerRows().bound(false));
        Check.due("17: no fingers", true, new FingerRows().agrees());
    }

    private static void promises18To22() {
        FingerRows x = Check.told(CHAIN);
        Check.due("18: none", 0, x.ofSet(0));
        Check.due("18: the ends", 1, x.ofSet(5));
        Check.due("18: two", 0, x.ofSet(3));
        Check.due("18: all", 0, x.ofSet(7));
        Check.dueThrow("18: a fourth", NO_ARGUMENT, () -> x.ofSet(8));
        Check.dueThrow("18: below 0", NO_ARGUMENT, () -> x.ofSet(-1));
        Check.dueThrow("18: a high bit", NO_ARGUMENT, () -> x.ofSet(1 << 31 | 1));
        Check.due("19: none", 0, x.parted(0, false));
        Check.due("19: none", 0, x.parted(0, true));
        Check.due("19: one", 0, x.parted(1, false));
        Check.due("19: the first", 1, x.parted(1, true));
        Check.due("19: two", 3, x.parted(2, true));
        Check.due("19: all", 7, x.parted(3, true));
        Check.dueThrow("19: four", NO_ARGUMENT, () -> x.parted(4, true));
        Check.dueThrow("19: below 0", NO_ARGUMENT, () -> x.parted(-1, true));
        Check.due("20: of several the least", 0, x.dearest());
        // without 1, which joins nobody, there is no gap
        FingerRows odd = Check.told("cell 1 1;pair 8 up 0 1 low 9 9;pair 8 up 5 6 low 9 9;pair 8 up 1 3 low 9 9");
        Check.due("20: the one between", 1, odd.dearest());
        Check.due("19: it alone", 2, odd.parted(1, true));
        Check.due("20: no fingers", -1, new FingerRows().dearest());
        Check.due("21: a chain, both ways", 4, x.ties());
        Check.due("22: nobody", 0, x.lonely());
        Check.due("21: two", 2, odd.ties());
        Check.due("22: the one between", 2, odd.lonely());
        // UP alone meets
        Check.due("21: half", 0, Check.told("cell 1 1;pair 8 up 0 1 low 2 3;pair 8 up 0 1 low 4 5").ties());
        Check.due("22: one alone", 1, Check.told("cell 1 1;pair 8 up 0 1 low 2 3").lonely());
    }

    private static void better(String text, FingerRows x, int gaps, int kind, int place, int to) {
        Check.due("23: gaps, " + text, gaps, x.better(0));
        Check.due("23: kind, " + text, kind, x.better(1));
        Check.due("23: place, " + text, place, x.better(2));
        Check.due("23: to, " + text, to, x.better(3));
    }

    private static void promises23And24() {
        better("nothing", new FingerRows(), -1, -1, -1, -1);
        better("one", Check.told("cell 1 1;pair 0 up 1 2 low 3 4"), 0, 1, 0, 1);
        better("by a turn", Check.told(TWO), 0, 1, 0, 1);
        FingerRows chain = Check.told(CHAIN);
        // LOW may turn: it is 9 on both sides
        better("a turn that harms nothing", chain, 0, 1, 0, 2);
        chain.move(0, 2);
        better("by a move", chain, 0, 2, 2, 0);
        Check.due("23: nothing is changed", 1, chain.at(0, 0));
        Check.due("23: nothing is remembered", 1, chain.count(7));
        Check.dueThrow("23: no what", NO_ELEMENT, () -> chain.better(4));
        Check.dueThrow("23: no what", NO_ELEMENT, () -> chain.better(-1));
        Check.dueThrow("23: no what without fingers", NO_ELEMENT, () -> new FingerRows().better(4));

        FingerRows x = Check.told(TWO);
        // 0: columns 1 . 4 . 1 / 0 . 5 . 4: net 1 from 0 to 4, net 4 from 2 to 4
        // 1: columns 4 . 1 . 4 / 0 . 5 . 4: net 4 from 0 to 4
        Check.due("24: the first alone", 0, x.shortest(1, false));
        Check.due("24: its length", 6, x.shortest(1, true));
        Check.due("24: the second is shorter", 1, x.shortest(2, false));
        Check.due("24: its length", 4, x.shortest(2, true));
        Check.due("24: of several the first", 1, x.shortest(20, false));
        Check.due("24: no fingers", 0, new FingerRows().shortest(20, true));
        Check.dueThrow("24: 0", NO_ARGUMENT, () -> x.shortest(0, true));
        Check.dueThrow("24: 21", NO_ARGUMENT, () -> x.shortest(21, true));
    }

    private static void promises25And26() {
        FingerRows x = Check.told(CHAIN);
        // 0 1 2 or 2 1 0, LOW turned or not: 2 * 8
        Check.due("12: chain", 16, x.many());
        Check.due("25: 0 1", 16, x.neighbours(0, 1));
        Check.due("25: 2 1", 16, x.neighbours(2, 1));
        Check.due("25: 0 2", 0, x.neighbours(0, 2));
        Check.dueThrow("25: no finger", NO_INDEX, () -> x.neighbours(0, 3));
        Check.dueThrow("25: no finger", NO_INDEX, () -> x.neighbours(-1, 0));
        Check.dueThrow("25: no finger ahead of both are one", NO_INDEX, () -> x.neighbours(3, 3));
        Check.dueThrow("25: both are one", NO_ARGUMENT, () -> x.neighbours(1, 1));
        Check.due("26: 0", 8, x.starts(0));
        Check.due("26: 1", 0, x.starts(1));
        Check.due("26: 2", 8, x.starts(2));
        Check.dueThrow("26: no finger", NO_INDEX, () -> x.starts(3));
        Check.dueThrow("26: no finger", NO_INDEX, () -> x.starts(-1));
        FingerRows all = Check.told("cell 1 1;pair 0 up 1 1 low 1 1 wide 8");
        Check.due("25: a quarter of all", 40320L * 65536L / 4, all.neighbours(3, 6));
        Check.due("26: an eighth of all", 40320L * 65536L / 8, all.starts(5));
    }

    private static void promises27To29() {
        FingerRows x = Check.told(CHAIN);
        Check.due("27: what it was", 0, x.turn(1, 3));
        Check.due("27: gaps", 2, x.layout(0));
        Check.due("27: what it was", 3, x.turn(1, 1));
        Check.due("27: turn", 1, x.at(1, 2));
        Check.due("27: the same one", 1, x.turn(1, 1));
        Check.due("27: remembered", 3, x.count(7));
        Check.dueThrow("27: no place ahead of no turn", NO_INDEX, () -> x.turn(3, 4));
        Check.dueThrow("27: no place", NO_INDEX, () -> x.turn(-1, 0));
        Check.dueThrow("27: no turn", NO_ARGUMENT, () -> x.turn(0, 4));
        Check.dueThrow("27: no turn", NO_ARGUMENT, () -> x.turn(0, -1));
        Check.due("27: none of these is remembered", 3, x.count(7));

        FingerRows y = Check.told(CHAIN);
        y.turn(0, 2);
        Check.due("28: to the end", 1, y.move(0, 2));
        Check.due("28: place 0", 1, y.at(0, 0));
        Check.due("28: place 1", 2, y.at(1, 0));
        Check.due("28: place 2", 0, y.at(2, 0));
        Check.due("28: with its turn", 2, y.at(2, 2));
        Check.due("28: back", 0, y.move(2, 0));
        Check.due("28: place 0", 0, y.at(0, 0));
        Check.due("28: place 1", 1, y.at(1, 0));
        Check.dueThrow("28: no place", NO_INDEX, () -> y.move(3, 3));
        Check.dueThrow("28: no place", NO_INDEX, () -> y.move(0, -1));
        Check.dueThrow("28: both are one", NO_ARGUMENT, () -> y.move(2, 2));
        Check.due("28: remembered", 3, y.count(7));

        FingerRows z = Check.told(CHAIN);
        z.turn(1, 1);
        Check.due("29: gaps", 2, z.mirror());
        int[][] places = {{2, 3}, {1, 2}, {0, 3}};
        for (int place = 0; place < 3; place++) {
            Check.due("29: finger of " + place, places[place][0], z.at(place, 0));
            Check.due("29: turn of " + place, places[place][1], z.at(place, 2));
        }
        Check.due("29: remembered", 2, z.count(7));
        Check.dueThrow("29: no fingers", NO_STATE, () -> new FingerRows().mirror());
        Check.dueThrow("29: a cell without fingers", NO_STATE, () -> Check.told("cell 1 1").mirror());
    }

    private static void promises30And31() {
        FingerRows x = Check.told(TWO);
        Check.due("30: gaps", 0, x.lay(3));
        Check.due("30: finger", 1, x.at(0, 0));
        Check.due("30: turn", 3, x.at(0, 2));
        Check.due("30: turn", 2, x.at(1, 2));
        Check.dueThrow("30: no such", NO_ARGUMENT, () -> x.lay(4));
        Check.dueThrow("30: no such", NO_ARGUMENT, () -> x.lay(-1));
        Check.dueThrow("30: no such", NO_ARGUMENT, () -> x.lay(Long.MAX_VALUE));
        Check.due("30: gaps of ones that are apart", 1, Check.told(APART).lay(31));
        FingerRows none = new FingerRows();
        Check.due("30: without fingers", 0, none.lay(0));
        Check.due("31: that is remembered", 0, none.undo());

        Check.due("31: the layout as told", 0, x.undo());
        Check.due("31: finger", 0, x.at(0, 0));
        Check.due("31: turn", 0, x.at(0, 2));
        Check.dueThrow("31: none", NO_STATE, () -> x.undo());
        for (int i = 1; i <= 10; i++) {
            x.turn(0, i % 4);
        }
        Check.due("31: 8 are remembered", 8, x.count(7));
        for (int left = 7; left >= 0; left--) {
            Check.due("31: undo", left, x.undo());
            Check.due("31: turn", (left + 2) % 4, x.at(0, 2));
        }
        Check.dueThrow("31: the older two are not", NO_STATE, () -> x.undo());
        x.mirror();
        Check.due("31: a wrong text", 0, Check.faultOf(x, "x"));
        Check.due("31: leaves what is remembered", 1, x.count(7));
        Check.feed(x, CHAIN);
        x.cell();
        Check.due("31: a text does not", 0, x.count(7));
        Check.dueThrow("31: none", NO_STATE, () -> x.undo());
    }

    private static void promises32And33() {
        FingerRows x = Check.told(RAILED + ";block 0 2 3;block 3 4 4;block 4 5 6;block 5 0 1");
        x.lay(0);
        // net 4 from 2 to 4
        int[] fits = {0, 1, 1, 0, 1, 1, 1, 1, 1, 1, 1, 1};
        for (int track = 0; track < 12; track++) {
            Check.due("32: track " + track, fits[track], x.fits(4, track));
        }
        Check.due("33: net 4", 4095 - 1 - 8, x.room(4));
        Check.due("32: a rail", -1, x.fits(1, 0));
        Check.due("33: a rail", -1, x.room(1));
        Check.due("32: one column", -1, x.fits(2, 0));
        Check.due("33: one column", -1, x.room(2));
        Check.dueThrow("32: no net ahead of no track", NO_INDEX, () -> x.fits(12, 12));
        Check.dueThrow("32: no net", NO_INDEX, () -> x.fits(-1, 0));
        Check.dueThrow("32: no track", NO_ARGUMENT, () -> x.fits(4, 12));
        Check.dueThrow("32: no track", NO_ARGUMENT, () -> x.fits(4, -1));
        Check.dueThrow("32: no track, without a wire", NO_ARGUMENT, () -> x.fits(1, 12));
        Check.dueThrow("33: no net", NO_INDEX, () -> x.room(12));
        Check.dueThrow("33: no net", NO_INDEX, () -> x.room(-1));
        // two wires over all columns: each keeps the other out of its track
        FingerRows y = Check.told("cell 1 1;pair 2 up 1 1 low 3 3");
        Check.due("32: its own", 1, y.fits(1, 0));
        Check.due("32: the other's", 0, y.fits(1, 1));
        Check.due("33: net 1", 4093, y.room(1));
        Check.due("33: net 3", 4094, y.room(3));
        FingerRows lost = Check.told(lostCell());
        Check.due("33: a lost wire", 0, lost.room(5));
        Check.due("32: a lost wire", 0, lost.fits(5, 11));
    }

    private static void promises34To36() {
        FingerRows x = new FingerRows();
        Check.due("35: none was kept", false, x.back());
        x.image();
        Check.feed(x, TWO);
        x.cell();
        Check.due("35: to no cell", true, x.back());
        Check.due("35: no cell", 0, x.count(5));
        Check.due("35: no fingers", 0, x.count(1));
        Check.feed(x, RAILED);
        x.cell();
        x.lay(2);
        x.image();
        Check.due("34: is kept what is remembered", 1, x.count(7));
        x.lay(1);
        Check.feed(x, "cell 3 2;pair 0 up 1 1 low 1 1 wide 21");
        x.cell();
        Check.due("34: another cell", 7, x.count(1));
        Check.feed(x, "cell 0");
        Check.dueThrow("4: wrong", NO_ARGUMENT, () -> x.cell());
        x.feed(1, 2, 3, 4, 5);
        Check.due("35: back", true, x.back());
        Check.due("35: going back none are remembered", 0, x.count(7));
        Check.due("35: fingers", 2, x.count(1));
        Check.due("35: finger", 1, x.at(0, 0));
        Check.due("35: turn", 2, x.at(0, 2));
        Check.due("35: many", 4, x.many());
        Check.due("35: fault stays", 5, x.fault());
        Check.due("35: the tape stays", true, x.end(20));
        x.mirror();
        Check.due("35: again", true, x.back());
        Check.due("35: the same finger", 1, x.at(0, 0));
        Check.feed(x, CHAIN);
        Check.due("35: the tape had 20 bytes", 20, x.end(20) ? 20 : 0);
        x.end(0);

        FingerRows y = Check.told("cell 3 2;pair 0 up 1 1 low 1 1 wide 7;pair 0 up 1 1 low 1 1;rail 0;rail 11;pin 3;"
            + "block 0 0 1;block 0 0 1");
        int[] counts = {2, 4, 2049, 8, 2, 3, 2, 0, -1};
        for (int what = 0; what < counts.length; what++) {
            Check.due("36: count " + what, counts[what], y.count(what));
        }
        Check.due("36: below 0", -1, y.count(-1));
    }
}
