import java.util.ArrayList;
import java.util.Arrays;
import java.util.List;
import java.util.NoSuchElementException;

/** The edges of a layout: part 2 of the Terms and promises 7 to 10 and 27 to 33, sentence by sentence. */
public final class LayoutEdgesTest {
    private static final Class<IndexOutOfBoundsException> NO_INDEX = IndexOutOfBoundsException.class;
    private static final Class<IllegalArgumentException> NO_ARGUMENT = IllegalArgumentException.class;
    private static final Class<IllegalStateException> NO_STATE = IllegalStateException.class;
    private static final Class<NoSuchElementException> NO_ELEMENT = NoSuchElementException.class;

    // one finger, every net once: columns (1, 3), gate 0, (2, 4)
    private static final String ONE = "cell 1 1;pair 0 up 1 2 low 3 4";
    // columns (1, 3), gate 0, (2, 4), a gap, (6, 7), gate 5, (2, 8): a wire of net 2 from 2 to 5
    private static final String SPREAD = ONE + ";pair 5 up 6 2 low 7 8";
    // three fingers twice, no two joined: all 12 nets have wires, and all of these go over columns 7 to 9
    private static final String CROWD = "cell 1 1;pair 0 up 1 2 low 3 4;pair 5 up 6 7 low 8 9;pair 10 up 11 11 low 11 11"
        + ";pair 0 up 1 2 low 3 4;pair 5 up 6 7 low 8 9;pair 10 up 11 11 low 11 11";

    public static void main(String[] args) {
        turns();
        gaps();
        columns();
        columnsOfNets();
        wires();
        cuts();
        freeColumns();
        stretches();
        wiresToPins();
        withoutPinning();
        tracks();
        tracksAndBlocks();
        twelveTracks();
        fitsAndRoom();
        turned();
        moved();
        mirrored();
        laid();
        takenBack();
        noneAreRemembered();
        places();
        columnAnswers();
        netAnswers();
        layoutAnswers();
        same();
        Check.close();
    }

    private static void upLow(FingerRows x, int column, int up, int low) {
        Check.due("UP of column " + column, up, x.column(column, 0));
        Check.due("LOW of column " + column, low, x.column(column, 1));
        Check.due("GATE of column " + column, -1, x.column(column, 2));
    }

    private static int[] outside(int size) {
        return new int[] {-1, size, size + 1, size + 256, Integer.MIN_VALUE, Integer.MAX_VALUE, Integer.MIN_VALUE + size};
    }

    private static void turns() {
        Check.says("each with a TURN: 0 none, 1 UP turned, 2 LOW turned, 3 both.");
        int[][] nets = {{1, 3, 2, 4}, {2, 3, 1, 4}, {1, 4, 2, 3}, {2, 4, 1, 3}};
        FingerRows x = Check.told(ONE);
        for (int turn = 0; turn < 4; turn++) {
            x.turn(0, turn);
            upLow(x, 0, nets[turn][0], nets[turn][1]);
            upLow(x, 2, nets[turn][2], nets[turn][3]);
            Check.due("READ BACK of turn " + turn, 1, x.at(0, 5));
        }
    }

    private static void gaps() {
        Check.says("They JOIN, if both MEET; else there is a GAP. BREAKS: of all GAPS, together, how many of "
            + "UP and LOW do not MEET.");
        String[] seconds = {"2 5 low 4 6", "2 5 low 7 6", "8 5 low 4 6", "8 5 low 7 6"};
        int[] gaps = {0, 1, 1, 1};
        int[] breaks = {0, 1, 1, 2};
        for (int i = 0; i < 4; i++) {
            FingerRows x = Check.told(ONE + ";pair 0 up " + seconds[i]);
            Check.due("GAPS of " + seconds[i], gaps[i], x.layout(0));
            Check.due("BREAKS of " + seconds[i], breaks[i], x.layout(1));
            Check.due("SPAN of " + seconds[i], 5 + gaps[i], x.layout(2));
            Check.due("JOINS the next " + seconds[i], 1 - gaps[i], x.at(0, 4));
            Check.due("the last joins none", 0, x.at(1, 4));
        }
        FingerRows apart = Check.told("cell 1 1" + ";pair 0 up 1 2 low 3 4".repeat(8));
        Check.due("the most GAPS", 7, apart.layout(0));
        Check.due("the most BREAKS", 14, apart.layout(1));
        FingerRows half = Check.told("cell 1 1" + ";pair 0 up 1 1 low 3 4".repeat(8));
        Check.due("GAPS of LOW alone", 7, half.layout(0));
        Check.due("BREAKS of LOW alone", 7, half.layout(1));
        Check.due("no GAPS of one", 0, Check.told(ONE).layout(0));
        Check.due("no GAPS of none", 0, Check.told("cell 1 1").layout(0));
    }

    private static void columns() {
        Check.says("the right one is the left one of the next FINGER, if they JOIN; else that one's is the "
            + "next column. SPAN: how many columns.");
        FingerRows apart = Check.told("cell 1 1" + ";pair 0 up 1 2 low 3 4".repeat(8));
        FingerRows joined = Check.told("cell 1 1" + ";pair 0 up 1 1 low 3 3".repeat(8));
        Check.due("SPAN of none", 0, new FingerRows().layout(2));
        Check.due("SPAN of a CELL without FINGERS", 0, Check.told("cell 1 1").layout(2));
        Check.due("SPAN of one", 3, Check.told(ONE).layout(2));
        Check.due("the greatest SPAN", 24, apart.layout(2));
        Check.due("SPAN of 8 that JOIN", 17, joined.layout(2));
        for (int place = 0; place < 8; place++) {
            Check.due("GATE apart " + place, 3 * place + 1, apart.at(place, 3));
            Check.due("GATE joined " + place, 2 * place + 1, joined.at(place, 3));
            upLow(apart, 3 * place, 1, 3);
            upLow(apart, 3 * place + 2, 2, 4);
            upLow(joined, 2 * place, 1, 3);
            upLow(joined, 2 * place + 2, 1, 3);
            Check.due("GATE's column", 0, apart.column(3 * place + 1, 2));
            Check.due("GATE's column has no UP", -1, apart.column(3 * place + 1, 0));
            Check.due("GATE's column has no LOW", -1, apart.column(3 * place + 1, 1));
        }
    }

    private static void net(FingerRows x, int net, int... want) {
        for (int what = 0; what < want.length; what++) {
            Check.due("net " + net + " " + what, want[what], x.net(net, what));
        }
    }

    private static void columnsOfNets() {
        Check.says("A NET has a column, if it is there as GATE, of UP or of LOW.");
        FingerRows x = Check.told(ONE);
        net(x, 0, 1, 1, 1);
        net(x, 1, 0, 0, 1);
        net(x, 2, 2, 2, 1);
        net(x, 3, 0, 0, 1);
        net(x, 4, 2, 2, 1);
        net(x, 5, -1, -1, 0);
        // one column is one, though it has the net twice
        net(Check.told("cell 1 1;pair 1 up 1 1 low 1 1"), 1, 0, 2, 3, 0, 0, -1, 0, 2, 0);
        net(Check.told("cell 1 1;pair 0 up 1 2 low 1 3"), 1, 0, 0, 1, 0, 0, -1, -1, -1, -1);
        net(Check.told("cell 1 1;pair 1 up 1 1 low 1 1 wide 8"), 1, 0, 16, 17);
        FingerRows apart = Check.told("cell 1 1" + ";pair 0 up 1 2 low 2 1".repeat(8));
        net(apart, 0, 1, 22, 8);
        net(apart, 1, 0, 23, 16);
    }

    private static void wires() {
        Check.says("WIRE of a NET, that is no RAIL and has two columns at least: from its least to its "
            + "greatest column");
        FingerRows x = Check.told(SPREAD);
        net(x, 2, 2, 5, 2, 0, 0, -1, 2, 5, 0);
        net(x, 8, 5, 5, 1, 0, 0, -1, -1, -1, -1);
        net(x, 9, -1, -1, 0, 0, 0, -1, -1, -1, -1);
        Check.due("WIRES", 1, x.layout(3));
        FingerRows rail = Check.told(SPREAD + ";rail 2");
        net(rail, 2, 2, 5, 2, 1, 0, -1, -1, -1, -1);
        Check.due("no WIRE of a RAIL", 0, rail.layout(3));
        Check.due("LENGTH without WIRES", 0, rail.layout(9));
        Check.due("a RAIL without a column", 1, Check.told(SPREAD + ";rail 11").net(11, 3));
        FingerRows all = Check.told("cell 1 1;pair 1 up 1 1 low 1 1;rail 1");
        Check.due("no WIRE of a RAIL everywhere", 0, all.layout(3));
    }

    private static void cuts() {
        Check.says("CUT of a column: how many WIRES go over it (ends, too).");
        FingerRows x = Check.told(SPREAD);
        int[] cuts = {0, 0, 1, 1, 1, 1};
        for (int column = 0; column < 6; column++) {
            Check.due("CUT of " + column, cuts[column], x.column(column, 3));
        }
        Check.says("WORST: the column of the greatest CUT, the first of several; none without WIRES. LENGTH: "
            + "columns less 1 of all WIRES, together.");
        Check.due("greatest CUT", 1, x.layout(4));
        Check.due("the first of several", 2, x.layout(5));
        Check.due("LENGTH", 3, x.layout(9));
        FingerRows none = Check.told(ONE);
        Check.due("no WIRES", 0, none.layout(3));
        Check.due("no CUT", 0, none.layout(4));
        Check.due("no WORST", -1, none.layout(5));
        Check.due("no LENGTH", 0, none.layout(9));
        FingerRows edge = Check.told("cell 1 1;pair 0 up 1 1 low 3 4");
        Check.due("WORST is the first column", 0, edge.layout(5));
        Check.due("WORST without a CELL", -1, new FingerRows().layout(5));
        // net 4 from 2 to 5 and 8 from 5 to 8: column 5 has both, and no other one
        FingerRows late = Check.told("cell 1 1;pair 0 up 1 2 low 3 4;pair 5 up 6 4 low 7 8;pair 9 up 10 11 low 10 8");
        Check.due("CUT", 2, late.layout(4));
        Check.due("WORST has it first", 5, late.layout(5));
    }

    private static void pins(String text, int stretch, int... netsAndColumns) {
        FingerRows x = Check.told(text);
        Check.due("STRETCH of " + text, stretch, x.layout(10));
        for (int i = 0; i + 1 < netsAndColumns.length; i += 2) {
            Check.due("PIN " + netsAndColumns[i] + " of " + text, netsAndColumns[i + 1], x.net(netsAndColumns[i], 5));
        }
    }

    private static String one(int pitch, String lines) {
        return ONE.replace("cell 1 1", "cell 1 " + pitch) + lines;
    }

    private static void freeColumns() {
        Check.says("each PIN that has a column at all goes to a column that is a multiple of PITCH, less "
            + "than SPAN, no two to one");
        pins(ONE, 0, 0, -1, 1, -1);
        pins("cell 1 1;pin 0;pin 5", 0, 0, -1, 5, -1);
        pins(one(1, ";pin 5;pin 11;pin 6"), 0, 5, -1, 11, -1, 6, -1);
        pins(one(1, ";pin 0;pin 1;pin 2"), 0, 0, 1, 1, 0, 2, 2);
        pins(one(1, ";pin 0;pin 1;pin 2;pin 3"), -1, 0, -1, 1, -1, 2, -1, 3, -1);
        pins(one(2, ";pin 1;pin 2"), 0, 1, 0, 2, 2);
        pins(one(2, ";pin 1;pin 2;pin 5"), 0, 1, 0, 2, 2, 5, -1);
        pins(one(2, ";pin 0;pin 1;pin 2"), -1, 0, -1, 1, -1, 2, -1);
        // of 3 columns 3 is none
        pins(one(3, ";pin 2"), 2, 2, 0);
        pins(one(3, ";pin 1;pin 2"), -1, 1, -1, 2, -1);
        pins(one(4, ";pin 2"), 2, 2, 0);
        // 5 columns: 4 is one, 6 columns: 4 is one and 5 is none
        String joined = "cell 1 4;pair 0 up 1 2 low 3 4;pair 5 up 2 6 low 4 7";
        pins(joined + ";pin 6", 0, 6, 4);
        pins(joined + ";pin 6;pin 7", 4, 6, 0, 7, 4);
        pins(joined + ";pin 6;pin 7;pin 5", -1, 6, -1, 7, -1, 5, -1);
        String apart = "cell 1 4;pair 0 up 1 2 low 3 4;pair 5 up 8 6 low 9 7";
        pins(apart + ";pin 6", 1, 6, 4);
        pins(apart + ";pin 6;pin 7;pin 1", -1, 6, -1, 7, -1, 1, -1);
        // 24 columns: 0, 4, 8, 12, 16, 20 for 6 pins of columns 1 to 22 or so
        String eight = "cell 1 4" + ";pair 0 up 1 2 low 3 4".repeat(8);
        pins(eight + ";pin 0;pin 1;pin 2;pin 3;pin 4", 0, 0, 4, 1, 0, 2, 8, 3, 12, 4, 16);
        String seven = "cell 1 4" + ";pair 0 up 1 2 low 3 4".repeat(7) + ";pair 0 up 1 2 low 3 5";
        // net 5 is in column 23 alone, so its pin is at 20, 3 beyond
        pins(seven + ";pin 0;pin 1;pin 2;pin 3;pin 4;pin 5", 3, 0, 4, 1, 0, 2, 8, 3, 12, 4, 16, 5, 20);
        // 21 columns: 20 is the last one
        String last = "cell 1 4" + ";pair 0 up 1 2 low 3 4".repeat(6) + ";pair 0 up 1 2 low 3 5";
        pins(last + ";pin 5", 0, 5, 20);
        // 17 columns: 0, 4, 8, 12, 16 for 5, not for 6; net 3 is in 15 and net 4 in 16 alone
        String five = "cell 1 4" + ";pair 0 up 1 1 low 2 2".repeat(7) + ";pair 3 up 1 4 low 2 5";
        pins(five + ";pin 0;pin 1;pin 2;pin 3;pin 4", 3, 0, 4, 1, 0, 2, 8, 3, 12, 4, 16);
        pins(five + ";pin 0;pin 1;pin 2;pin 3;pin 4;pin 5", -1, 0, -1, 5, -1);
    }

    private static void stretches() {
        Check.says("STRETCH of that: how far it is beyond the least, the greatest column of its NET (0 "
            + "between these, both).");
        // net 2 from 2 to 5
        String[] at = {"cell 1 4", "cell 1 3", "cell 1 2", "cell 1 1"};
        int[] columns = {4, 3, 2, 2};
        for (int i = 0; i < 4; i++) {
            pins(SPREAD.replace("cell 1 1", at[i]) + ";pin 2", 0, 2, columns[i]);
        }
        pins(one(2, ";pin 0"), 1, 0, 0);
        pins(one(4, ";pin 4"), 2, 4, 0);
        pins(one(4, ";pin 1"), 0, 1, 0);
        // net 6 is in column 3 alone: 3 beyond, then 1 beyond
        pins(SPREAD.replace("cell 1 1", "cell 1 4") + ";pin 6", 1, 6, 4);
        pins(SPREAD.replace("cell 1 1", "cell 1 4") + ";pin 6;pin 8", 3 + 1, 6, 0, 8, 4);

        Check.says("PINNING: of all such ways that of the least STRETCH, together, of these the first (by "
            + "NETS, each column the least)");
        pins(one(2, ";pin 0;pin 1"), 1, 0, 2, 1, 0);
        pins(one(2, ";pin 1;pin 0"), 1, 0, 2, 1, 0);
        pins(one(2, ";pin 0;pin 2"), 1, 0, 0, 2, 2);
        pins(one(2, ";pin 1;pin 3"), 2, 1, 0, 3, 2);
        pins(one(2, ";pin 3;pin 1"), 2, 1, 0, 3, 2);
        pins(one(1, ";pin 1;pin 3"), 1, 1, 0, 3, 1);
        pins(one(1, ";pin 2;pin 4"), 1, 2, 1, 4, 2);
        pins(one(1, ";pin 1;pin 3;pin 0"), 2, 0, 1, 1, 0, 3, 2);
        // the least column of net 2 is 2: 0 and 1 are less, but beyond
        pins(SPREAD + ";pin 2;pin 4", 0, 2, 3, 4, 2);
        pins(SPREAD + ";pin 2;pin 0;pin 1", 0, 0, 1, 1, 0, 2, 2);
    }

    private static void wiresToPins() {
        Check.says("With a PIN a WIRE goes to its column, too (of a NET that is no RAIL, also if it had one "
            + "column alone, if these are unlike then)");
        FingerRows alike = Check.told(one(1, ";pin 0"));
        net(alike, 0, 1, 1, 1, 0, 1, 1, -1, -1, -1);
        FingerRows left = Check.told(one(2, ";pin 0"));
        net(left, 0, 1, 1, 1, 0, 1, 0, 0, 1, 0);
        Check.due("LENGTH", 1, left.layout(9));
        Check.due("CUT of its end", 1, left.column(0, 3));
        Check.due("CUT beyond", 0, left.column(2, 3));
        FingerRows right = Check.told(one(2, ";pin 0;pin 1"));
        net(right, 0, 1, 1, 1, 0, 1, 2, 1, 2, 0);
        net(right, 1, 0, 0, 1, 0, 1, 0, -1, -1, -1);
        FingerRows rail = Check.told(one(2, ";pin 0;pin 1;rail 0"));
        net(rail, 0, 1, 1, 1, 1, 1, 2, -1, -1, -1);
        Check.due("STRETCH of a RAIL counts", 1, rail.layout(10));
        Check.due("a RAIL has no WIRE to its PIN", 0, rail.layout(3));
        // net 2 from 2 to 5, its pin at 0: from 0 on; net 8 at 4 takes the other one
        FingerRows longer = Check.told(SPREAD.replace("cell 1 1", "cell 1 4") + ";pin 2;pin 8;pin 9");
        Check.due("STRETCH", 2 + 1, longer.layout(10));
        net(longer, 2, 2, 5, 2, 0, 1, 0, 0, 5, 0);
        net(longer, 8, 5, 5, 1, 0, 1, 4, 4, 5, 1);
        // between its ends a pin changes nothing
        net(Check.told(SPREAD.replace("cell 1 1", "cell 1 3") + ";pin 2"), 2, 2, 5, 2, 0, 1, 3, 2, 5, 0);
    }

    private static void withoutPinning() {
        Check.says("none, if there is no such way.");
        Check.says("without PINNING as without PINS.");
        String cell = "cell 1 1;pair 0 up 1 1 low 3 4";
        FingerRows none = Check.told(cell + ";pin 0;pin 1;pin 3;pin 4");
        FingerRows plain = Check.told(cell);
        Check.due("no PINNING", -1, none.layout(10));
        for (int net = 0; net < 12; net++) {
            Check.due("column of PIN " + net, -1, none.net(net, 5));
            for (int what : new int[] {0, 1, 2, 3, 6, 7, 8}) {
                Check.due("net " + net + " " + what, plain.net(net, what), none.net(net, what));
            }
        }
        for (int what = 0; what < 10; what++) {
            Check.due("layout " + what, plain.layout(what), none.layout(what));
        }
        Check.due("it is a PIN nevertheless", 1, none.net(4, 4));
        // a layout with a gap has a way, the same one joined has none
        FingerRows both = Check.told("cell 1 1;pair 0 up 1 2 low 3 4;pair 5 up 2 6 low 4 7;pin 0;pin 1;pin 2;pin 3;pin 4;pin 5");
        Check.due("5 columns for 6", -1, both.layout(10));
        both.turn(1, 1);
        Check.due("6 columns for 6", 6, both.layout(2));
        Check.due("a way", true, both.layout(10) >= 0);
        both.undo();
        Check.due("none again", -1, both.layout(10));
        Check.due("none of a PIN", -1, both.net(0, 5));
    }

    private static void tracks() {
        Check.says("WIRES by their first column, of like ones by NETS, each in the least TRACK, in which no "
            + "WIRE that has one of its columns is yet");
        // net 1 from 0 to 2, net 4 from 2 to 4: one column is of both
        FingerRows touching = Check.told("cell 1 1;pair 0 up 1 1 low 3 4;pair 7 up 1 5 low 4 4");
        Check.due("the first", 0, touching.net(1, 8));
        Check.due("the touching one", 1, touching.net(4, 8));
        Check.due("TRACKS", 2, touching.layout(6));
        Check.due("the greatest and 1", 2, touching.layout(8));
        // net 1 from 0 to 2, net 4 from 3 to 5
        FingerRows beside = Check.told("cell 1 1;pair 0 up 1 1 low 3 5;pair 7 up 6 8 low 4 4");
        Check.due("the first", 0, beside.net(1, 8));
        Check.due("the one beside", 0, beside.net(4, 8));
        Check.due("TRACKS", 1, beside.layout(6));
        Check.due("the greatest and 1", 1, beside.layout(8));
        Check.due("WIRES", 2, beside.layout(3));
        FingerRows like = Check.told("cell 1 1;pair 0 up 4 4 low 2 2");
        Check.due("of like ones the lesser NET", 0, like.net(2, 8));
        Check.due("of like ones the greater NET", 1, like.net(4, 8));
        // net 4 from 0 to 2, net 1, a gate, from 1 to 3
        FingerRows order = Check.told("cell 1 1;pair 1 up 4 4 low 2 3;pair 1 up 4 5 low 3 6");
        Check.due("the first column is ahead of NETS", 0, order.net(4, 8));
        Check.due("the later column", 1, order.net(1, 8));
        FingerRows zero = Check.told("cell 1 1;pair 0 up 4 4 low 2 3;pair 0 up 4 5 low 3 6");
        Check.due("the greatest is that of NET 0", 2, zero.layout(8));
        Check.due("TRACKS without WIRES", 0, Check.told(ONE).layout(6));
        Check.due("the greatest without WIRES", 0, Check.told(ONE).layout(8));
    }

    private static void tracksAndBlocks() {
        Check.says("and no BLOCK that has one of them");
        // the wire of net 2 from 2 to 5
        int[][] blocks = {{0, 0, 0}, {0, 1, 0}, {0, 2, 1}, {2, 2, 1}, {1, 2, 1}, {3, 4, 1}, {2, 5, 1}, {0, 40, 1}, {5, 5, 1},
            {5, 40, 1}, {6, 6, 0}, {6, 40, 0}, {40, 40, 0}};
        for (int[] block : blocks) {
            FingerRows x = Check.told(SPREAD + ";block 0 " + block[0] + " " + block[1]);
            Check.due("TRACK of a BLOCK " + block[0] + " to " + block[1], block[2], x.net(2, 8));
            Check.due("fits there " + block[0] + " to " + block[1], 1 - block[2], x.fits(2, 0));
        }
        FingerRows gap = Check.told(SPREAD + ";block 0 0 1;block 0 6 40;block 1 0 40;block 11 2 2");
        Check.due("between two BLOCKS", 0, gap.net(2, 8));
        Check.due("its room", 4095 - 2 - 2048, gap.room(2));
        FingerRows high = Check.told(SPREAD + ";block 0 0 40;block 1 5 5;block 2 2 2;block 3 3 4;block 4 0 2;block 5 5 9");
        Check.due("above 6 BLOCKS", 6, high.net(2, 8));
        Check.due("TRACKS that have one", 1, high.layout(6));
        Check.due("the greatest and 1", 7, high.layout(8));
        Check.due("BLOCKS cut nothing", 1, high.layout(4));
        FingerRows upper = Check.told(SPREAD + ";block 1 0 40");
        Check.due("another TRACK's BLOCK", 0, upper.net(2, 8));
        // beyond all columns a block is allowed and harms nothing
        Check.due("beyond SPAN", 0, Check.told(ONE.replace("up 1 2", "up 1 1") + ";block 0 3 40").net(1, 8));
    }

    private static void twelveTracks() {
        Check.says("of 12 TRACKS (0 to 11); LOST, if none is so.");
        int[] tracks = {2, 0, 3, 1, 4, 7, 5, 8, 6, 9, 11, 10};
        FingerRows full = Check.told(CROWD);
        for (int net = 0; net < 12; net++) {
            Check.due("TRACK of " + net, tracks[net], full.net(net, 8));
            Check.due("its room", 1 << tracks[net], full.room(net));
        }
        int[] whole = {5, 10, 18, 12, 12, 7, 12, 0, 12, 110, 0, 0};
        for (int what = 0; what < 12; what++) {
            Check.due("layout " + what, whole[what], full.layout(what));
        }
        FingerRows lost = Check.told(CROWD + ";block 0 0 40");
        for (int net = 0; net < 12; net++) {
            Check.due("TRACK of " + net, net == 10 ? -1 : tracks[net] + 1, lost.net(net, 8));
        }
        Check.due("it has its WIRE, though LOST", 7, lost.net(10, 6));
        Check.due("it has its WIRE, though LOST", 16, lost.net(10, 7));
        int[] partly = {5, 10, 18, 12, 12, 7, 11, 1, 12, 110, 0, 0};
        for (int what = 0; what < 12; what++) {
            Check.due("layout " + what, partly[what], lost.layout(what));
        }
        // net 10, from 7 to 16, is the last one, and track 11 is left for it
        int[][] blocks = {{0, 6, 0}, {0, 7, 1}, {7, 7, 1}, {16, 16, 1}, {16, 40, 1}, {17, 40, 0}};
        for (int[] block : blocks) {
            FingerRows x = Check.told(CROWD + ";block 11 " + block[0] + " " + block[1]);
            Check.due("LOST by " + block[0] + " to " + block[1], block[2], x.layout(7));
            Check.due("the greatest and 1", 12 - block[2], x.layout(8));
            Check.due("TRACK of 10", block[2] == 1 ? -1 : 11, x.net(10, 8));
        }
        FingerRows zero = Check.told(CROWD.replace("pair 0 ", "pair 10 ").replace("pair 10 up 11", "pair 0 up 11") + ";block 0 0 40");
        Check.due("NET 0 is LOST", -1, zero.net(0, 8));
        Check.due("NET 0 is LOST", 1, zero.layout(7));
        FingerRows six = Check.told(CROWD + ";block 0 0 40;block 1 0 40;block 2 0 40;block 3 0 40;block 4 0 40;block 5 0 40");
        Check.due("six are LOST", 6, six.layout(7));
        Check.due("six have one", 6, six.layout(6));
    }

    private static void fitsAndRoom() {
        Check.says("(its own aside), BLOCKS counting: 1, 0; NONE without a WIRE. IllegalArgumentException: "
            + "there is no such TRACK (0 to 11).");
        FingerRows x = Check.told(CROWD + ";block 0 0 40");
        for (int track = 0; track < 12; track++) {
            Check.due("a LOST one in " + track, 0, x.fits(10, track));
            Check.due("net 1 in " + track, track == 1 ? 1 : 0, x.fits(1, track));
        }
        Check.says("The TRACKS that a WIRE of a NET could be in so, as bits; NONE without a WIRE.");
        Check.due("no room for a LOST one", 0, x.room(10));
        FingerRows beside = Check.told("cell 1 1;pair 0 up 1 1 low 3 5;pair 7 up 6 8 low 4 4");
        Check.due("beside another one", 1, beside.fits(4, 0));
        Check.due("all", 4095, beside.room(4));
        FingerRows touching = Check.told("cell 1 1;pair 0 up 1 1 low 3 4;pair 7 up 1 5 low 4 4");
        Check.due("the touching one's", 0, touching.fits(1, 1));
        Check.due("all but that one", 4093, touching.room(1));
        Check.due("all but that one", 4094, touching.room(4));
        for (int net : outside(12)) {
            Check.dueThrow("fits " + net, NO_INDEX, () -> x.fits(net, 0));
            Check.dueThrow("fits, both wrong " + net, NO_INDEX, () -> x.fits(net, 12));
            Check.dueThrow("room " + net, NO_INDEX, () -> x.room(net));
        }
        FingerRows none = Check.told(ONE);
        for (int track : outside(12)) {
            Check.dueThrow("fits in " + track, NO_ARGUMENT, () -> x.fits(1, track));
            Check.dueThrow("fits in, without a WIRE " + track, NO_ARGUMENT, () -> none.fits(1, track));
            Check.dueThrow("fits in, without a CELL " + track, NO_ARGUMENT, () -> new FingerRows().fits(1, track));
        }
        for (int net = 0; net < 12; net++) {
            Check.due("without a WIRE", -1, none.room(net));
            Check.due("without a WIRE", -1, none.fits(net, 0));
            Check.due("without a WIRE", -1, none.fits(net, 11));
            Check.due("without a CELL", -1, new FingerRows().room(net));
        }
        FingerRows rail = Check.told(SPREAD + ";rail 2");
        Check.due("a RAIL", -1, rail.room(2));
        Check.due("a RAIL", -1, rail.fits(2, 0));
    }

    private static void turned() {
        Check.says("TURNED: what TURN was. IllegalArgumentException: there is no such TURN.");
        FingerRows x = Check.told("cell 1 1" + ";pair 0 up 1 2 low 3 4".repeat(8));
        for (int place : new int[] {0, 7}) {
            int was = 0;
            for (int turn : new int[] {3, 0, 1, 2, 2, 0}) {
                Check.due("what it was", was, x.turn(place, turn));
                Check.due("what it is", turn, x.at(place, 2));
                was = turn;
            }
        }
        for (int wrong : outside(4)) {
            Check.dueThrow("turn " + wrong, NO_ARGUMENT, () -> x.turn(0, wrong));
        }
        for (int wrong : outside(8)) {
            Check.dueThrow("place " + wrong, NO_INDEX, () -> x.turn(wrong, 0));
            Check.dueThrow("place and turn " + wrong, NO_INDEX, () -> x.turn(wrong, 4));
        }
        Check.dueThrow("without FINGERS", NO_INDEX, () -> new FingerRows().turn(0, 0));
        Check.dueThrow("without FINGERS", NO_INDEX, () -> Check.told("cell 1 1").turn(0, 4));
        // a text may have fewer fingers than the one before
        Check.feed(x, ONE);
        x.cell();
        Check.dueThrow("a place of the one before", NO_INDEX, () -> x.turn(1, 0));
    }

    private static List<Integer> order(FingerRows x) {
        List<Integer> fingers = new ArrayList<>();
        for (int place = 0; place < x.count(1); place++) {
            fingers.add(x.at(place, 0) * 4 + x.at(place, 2));
        }
        return fingers;
    }

    private static void moved() {
        Check.says("MOVED: the FINGER of a place goes to another place (so that it stands there then).");
        for (int from = 0; from < 8; from++) {
            for (int to = 0; to < 8; to++) {
                FingerRows x = Check.told("cell 1 1" + ";pair 0 up 1 2 low 3 4".repeat(8));
                List<Integer> want = new ArrayList<>(Arrays.asList(0, 4, 8, 12, 16, 20, 24, 28));
                if (from == to) {
                    final int both = to;
                    Check.dueThrow("move " + both, NO_ARGUMENT, () -> x.move(both, both));
                } else {
                    want.add(to, want.remove(from));
                    Check.due("GAPS", 7, x.move(from, to));
                }
                Check.due("move " + from + " to " + to + ": " + order(x), true, want.equals(order(x)));
            }
        }
        FingerRows x = Check.told(SPREAD);
        x.turn(1, 3);
        x.move(1, 0);
        Check.due("with its TURN", true, Arrays.asList(7, 0).equals(order(x)));
        Check.says("MOVED: GAPS then. IllegalArgumentException: both places are one.");
        FingerRows chain = Check.told("cell 1 1;pair 0 up 1 2 low 9 9;pair 0 up 2 3 low 9 9;pair 0 up 3 4 low 9 9");
        Check.due("GAPS then", 2, chain.move(0, 1));
        Check.due("GAPS then", 0, chain.move(1, 0));
        Check.due("GAPS then", 1, chain.move(2, 0));
        for (int wrong : outside(3)) {
            Check.dueThrow("move " + wrong, NO_INDEX, () -> chain.move(wrong, 0));
            Check.dueThrow("move to " + wrong, NO_INDEX, () -> chain.move(0, wrong));
            Check.dueThrow("both " + wrong, NO_INDEX, () -> chain.move(wrong, wrong));
        }
        Check.dueThrow("one alone", NO_ARGUMENT, () -> Check.told(ONE).move(0, 0));
        Check.dueThrow("one alone", NO_INDEX, () -> Check.told(ONE).move(0, 1));
        Check.dueThrow("none", NO_INDEX, () -> new FingerRows().move(0, 0));
    }

    private static void mirrored() {
        Check.says("MIRRORED: all FINGERS the other way round, TURN 0 to 3, 1 to 2, 2 to 1, 3 to 0 each.");
        FingerRows x = Check.told("cell 1 1" + ";pair 0 up 1 2 low 3 4".repeat(4));
        x.turn(1, 1);
        x.turn(2, 2);
        x.turn(3, 3);
        List<Integer> before = order(x);
        x.mirror();
        Check.due("four: " + order(x), true, Arrays.asList(12, 9, 6, 3).equals(order(x)));
        x.mirror();
        Check.due("twice", true, before.equals(order(x)));
        FingerRows one = Check.told(ONE);
        Check.due("one alone", 0, one.mirror());
        Check.due("one alone", true, Arrays.asList(3).equals(order(one)));
        FingerRows odd = Check.told("cell 1 1" + ";pair 0 up 1 2 low 3 4".repeat(3));
        odd.mirror();
        Check.due("the middle one, too", true, Arrays.asList(11, 7, 3).equals(order(odd)));
        FingerRows eight = Check.told("cell 1 1" + ";pair 0 up 1 2 low 3 4".repeat(8));
        Check.due("GAPS then", 7, eight.mirror());
        Check.due("eight", true, Arrays.asList(31, 27, 23, 19, 15, 11, 7, 3).equals(order(eight)));
        FingerRows spread = Check.told(SPREAD);
        spread.mirror();
        int[][] columns = {{2, 8, -1}, {-1, -1, 5}, {6, 7, -1}, {2, 4, -1}, {-1, -1, 0}, {1, 3, -1}};
        for (int column = 0; column < 6; column++) {
            for (int what = 0; what < 3; what++) {
                Check.due("column " + column + " " + what, columns[column][what], spread.column(column, what));
            }
        }
        net(spread, 2, 0, 3, 2, 0, 0, -1, 0, 3, 0);
        Check.says("MIRRORED: GAPS then. IllegalStateException: there are no FINGERS.");
        Check.dueThrow("without a CELL", NO_STATE, () -> new FingerRows().mirror());
        Check.dueThrow("without FINGERS", NO_STATE, () -> Check.told("cell 1 1;rail 1").mirror());
    }

    private static void laid() {
        Check.says("LAID: GAPS then. IllegalArgumentException: there is no such BEST.");
        FingerRows x = Check.told(ONE);
        for (int k = 0; k < 4; k++) {
            Check.due("GAPS", 0, x.lay(k));
            Check.due("the k-th", k, x.at(0, 2));
        }
        for (long k : new long[] {-1, 4, 5, 1L << 32, (1L << 32) + 1, Long.MIN_VALUE, Long.MAX_VALUE, Integer.MIN_VALUE}) {
            Check.dueThrow("lay " + k, NO_ARGUMENT, () -> x.lay(k));
        }
        FingerRows all = Check.told("cell 1 1;pair 0 up 1 1 low 1 1 wide 8");
        long many = 40320L * 65536L;
        Check.due("the last one", 0, all.lay(many - 1));
        Check.due("the last one", true, Arrays.asList(31, 27, 23, 19, 15, 11, 7, 3).equals(order(all)));
        Check.dueThrow("one more", NO_ARGUMENT, () -> all.lay(many));
        Check.dueThrow("as an int it is below 0", NO_ARGUMENT, () -> all.lay((int) many));
        FingerRows none = new FingerRows();
        Check.due("without FINGERS there is one", 0, none.lay(0));
        Check.dueThrow("and no other", NO_ARGUMENT, () -> none.lay(1));
    }

    /** All kinds of changes, one after another; with the layouts ahead of each. */
    private static void change(FingerRows x, int i) {
        switch (i % 4) {
            case 0 -> x.turn(i % 3, (x.at(i % 3, 2) + 1) % 4);
            case 1 -> x.move(0, 2);
            case 2 -> x.mirror();
            default -> x.lay(i * 7 % x.many());
        }
    }

    private static void takenBack() {
        Check.says("TAKEN BACK: the latest of these that was not taken back yet (8 are remembered): the "
            + "LAYOUT is as ahead of it.");
        for (int changes = 1; changes <= 20; changes++) {
            FingerRows x = Check.told("cell 1 1;pair 0 up 1 2 low 9 9;pair 0 up 2 3 low 9 9;pair 0 up 5 4 low 9 9;pin 2");
            List<State> ahead = new ArrayList<>();
            List<List<Integer>> orders = new ArrayList<>();
            for (int i = 0; i < changes; i++) {
                ahead.add(new State(x));
                orders.add(order(x));
                change(x, i);
                Check.due("remembered", Math.min(i + 1, 8), x.count(7));
            }
            int kept = Math.min(changes, 8);
            for (int left = kept - 1; left >= 0; left--) {
                Check.due("undo", left, x.undo());
                Check.due("the layout of " + left, true, orders.get(changes - kept + left).equals(order(x)));
                Check.due("remembered", left, x.count(7));
            }
            if (changes <= 8) {
                Check.due("all as ahead of the first", true, ahead.get(0).isOf(x));
            }
            Check.dueThrow("one more than remembered", NO_STATE, () -> x.undo());
            Check.due("none", 0, x.count(7));
        }
        Check.says("TAKEN BACK: how many are remembered then. IllegalStateException: there is none.");
        Check.dueThrow("a new object", NO_STATE, () -> new FingerRows().undo());
        Check.dueThrow("a new text", NO_STATE, () -> Check.told(ONE).undo());
        FingerRows x = Check.told(ONE);
        for (int i = 1; i <= 9; i++) {
            x.turn(0, i % 4);
        }
        Check.due("undo", 7, x.undo());
        Check.due("undo", 6, x.undo());
        x.turn(0, 2);
        Check.due("a change behind an undo", 7, x.count(7));
        Check.due("is the latest", 6, x.undo());
        for (int left = 5; left >= 0; left--) {
            Check.due("undo", left, x.undo());
            Check.due("its TURN", (left + 1) % 4, x.at(0, 2));
        }
        Check.dueThrow("the eldest is not remembered", NO_STATE, () -> x.undo());
        Check.due("so it stays as it is", 1, x.at(0, 2));
    }

    private static void noneAreRemembered() {
        Check.says("A text, going back: none are remembered.");
        FingerRows x = Check.told(SPREAD);
        x.mirror();
        x.mirror();
        Check.feed(x, SPREAD);
        Check.due("a text on the TAPE is not read yet", 2, x.count(7));
        x.cell();
        Check.due("a text", 0, x.count(7));
        Check.dueThrow("a text", NO_STATE, () -> x.undo());
        x.turn(0, 1);
        x.image();
        Check.due("keeping", 1, x.count(7));
        x.turn(0, 2);
        x.back();
        Check.due("going back", 0, x.count(7));
        Check.dueThrow("going back", NO_STATE, () -> x.undo());
        Check.due("to the LAYOUT that was kept", 1, x.at(0, 2));
        x.turn(0, 3);
        Check.faultOf(x, "cell");
        Check.due("not a wrong text", 1, x.count(7));
        Check.due("undo", 0, x.undo());
        Check.due("what was kept", 1, x.at(0, 2));
        FingerRows none = new FingerRows();
        none.lay(0);
        Check.due("nor is going back nowhere", false, none.back());
        Check.due("going back", 1, none.count(7));
    }

    private static void places() {
        Check.says("3 the column of its GATE, 4 1 if it JOINS the next one (0 of the last one), 5 1 if READ "
            + "BACK is so. NoSuchElementException: another what.");
        FingerRows x = Check.told("cell 1 1" + ";pair 0 up 1 1 low 3 3".repeat(8));
        for (int place = 0; place < 8; place++) {
            Check.due("JOINS " + place, place == 7 ? 0 : 1, x.at(place, 4));
            Check.due("READ BACK " + place, 1, x.at(place, 5));
        }
        for (int what : outside(6)) {
            Check.dueThrow("at " + what, NO_ELEMENT, () -> x.at(0, what));
            Check.dueThrow("at, of the last " + what, NO_ELEMENT, () -> x.at(7, what));
        }
        for (int place : outside(8)) {
            Check.dueThrow("place " + place, NO_INDEX, () -> x.at(place, 0));
            Check.dueThrow("place, both wrong " + place, NO_INDEX, () -> x.at(place, 6));
        }
        for (int what = -1; what <= 6; what++) {
            final int one = what;
            Check.dueThrow("without FINGERS", NO_INDEX, () -> new FingerRows().at(0, one));
        }
    }

    private static void columnAnswers() {
        Check.says("0 the NET of UP, 1 of LOW (NONE of a column of a GATE), 2 GATE (NONE else), 3 CUT. "
            + "NoSuchElementException: another what.");
        FingerRows x = Check.told("cell 1 1" + ";pair 0 up 1 2 low 3 4".repeat(8));
        Check.due("the last column", 2, x.column(23, 0));
        for (int what : outside(4)) {
            Check.dueThrow("what " + what, NO_ELEMENT, () -> x.column(0, what));
            Check.dueThrow("what, of a GATE " + what, NO_ELEMENT, () -> x.column(1, what));
        }
        for (int column : outside(24)) {
            Check.dueThrow("column " + column, NO_INDEX, () -> x.column(column, 0));
            Check.dueThrow("column, both wrong " + column, NO_INDEX, () -> x.column(column, 4));
        }
        FingerRows joined = Check.told("cell 1 1" + ";pair 0 up 1 1 low 3 3".repeat(8));
        Check.due("the last column", 1, joined.column(16, 0));
        Check.dueThrow("one more", NO_INDEX, () -> joined.column(17, 0));
        // column 17 was there ahead of the change by hand
        joined.turn(0, 0);
        joined.lay(0);
        Check.dueThrow("one more", NO_INDEX, () -> joined.column(17, 3));
        Check.dueThrow("without FINGERS", NO_INDEX, () -> new FingerRows().column(0, 4));
        Check.dueThrow("without FINGERS", NO_INDEX, () -> Check.told("cell 1 1").column(0, 0));
        FingerRows shrunk = Check.told(SPREAD.replace("6 2", "2 6").replace("7 8", "4 8"));
        shrunk.turn(1, 3);
        Check.due("6 columns", 4, shrunk.column(5, 1));
        shrunk.undo();
        Check.dueThrow("5 columns", NO_INDEX, () -> shrunk.column(5, 1));
    }

    private static void netAnswers() {
        Check.says("5 the column of its PIN (NONE), 6 the first, 7 the last column of its WIRE (NONE), 8 its "
            + "TRACK (NONE). NoSuchElementException: another what.");
        FingerRows none = new FingerRows();
        for (int net = 0; net < 12; net++) {
            net(none, net, -1, -1, 0, 0, 0, -1, -1, -1, -1);
            net(Check.told("cell 1 1"), net, -1, -1, 0, 0, 0, -1, -1, -1, -1);
            net(Check.told("cell 1 1;rail " + net + ";pin " + net), net, -1, -1, 0, 1, 1, -1, -1, -1, -1);
        }
        for (int what : outside(9)) {
            Check.dueThrow("what " + what, NO_ELEMENT, () -> none.net(0, what));
            Check.dueThrow("what " + what, NO_ELEMENT, () -> none.net(11, what));
        }
        for (int net : outside(12)) {
            Check.dueThrow("net " + net, NO_INDEX, () -> none.net(net, 0));
            Check.dueThrow("net, both wrong " + net, NO_INDEX, () -> none.net(net, 9));
        }
        net(Check.told("cell 1 1;pair 11 up 11 11 low 0 0"), 11, 0, 2, 3, 0, 0, -1, 0, 2, 1);
        net(Check.told("cell 1 1;pair 11 up 11 11 low 0 0"), 0, 0, 2, 2, 0, 0, -1, 0, 2, 0);
    }

    private static void layoutAnswers() {
        Check.says("8 the greatest TRACK that has one and 1 (0 without), 9 LENGTH, 10 STRETCH of PINNING "
            + "(NONE), 11 1 if SAME. NoSuchElementException: another what.");
        int[] empty = {0, 0, 0, 0, 0, -1, 0, 0, 0, 0, 0, 1};
        FingerRows none = new FingerRows();
        for (int what = 0; what < 12; what++) {
            Check.due("without a CELL " + what, empty[what], none.layout(what));
            Check.due("without FINGERS " + what, empty[what], Check.told("cell 1 4;pin 1;block 0 0 0").layout(what));
        }
        for (int what : outside(12)) {
            Check.dueThrow("layout " + what, NO_ELEMENT, () -> none.layout(what));
            Check.dueThrow("layout " + what, NO_ELEMENT, () -> Check.told(ONE).layout(what));
        }
    }

    private static void same() {
        Check.says("SAME: whether the LAYOUT and it MIRRORED have the same NETS in all columns (of UP, GATE, LOW).");
        String[] ones = {"0 up 1 1 low 3 3", "1 up 1 1 low 1 1", "0 up 1 2 low 3 3", "0 up 1 1 low 3 4", "0 up 1 2 low 2 1"};
        int[] wants = {1, 1, 0, 0, 0};
        for (int i = 0; i < ones.length; i++) {
            Check.due(ones[i], wants[i], Check.told("cell 1 1;pair " + ones[i]).layout(11));
        }
        String two = "cell 1 1;pair 0 up 1 2 low 3 4;pair 0 up 2 1 low 4 3";
        Check.due("two", 1, Check.told(two).layout(11));
        Check.due("another GATE", 0, Check.told(two.replace("pair 0 up 2", "pair 5 up 2")).layout(11));
        Check.due("another UP", 0, Check.told(two.replace("2 1 low 4", "2 5 low 4")).layout(11));
        Check.due("another LOW", 0, Check.told(two.replace("4 3", "4 5")).layout(11));
        Check.due("one behind its like", 0, Check.told(two.replace("2 1 low 4 3", "1 2 low 3 4")).layout(11));
        Check.due("with gaps", 1, Check.told(two.replace(";pair 0 up 2", ";pair 5 up 6 6 low 7 7;pair 0 up 2")).layout(11));
        FingerRows x = Check.told(two);
        x.turn(1, 3);
        Check.due("turned it is not", 0, x.layout(11));
        x.turn(0, 3);
        Check.due("both turned it is", 1, x.layout(11));
        Check.due("none", 1, new FingerRows().layout(11));
    }
}
