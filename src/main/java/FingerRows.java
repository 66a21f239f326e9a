import java.util.NoSuchElementException;

/**
 * The rows of a cell: fingers in some order, each half turned or not, with gaps where nets do not meet.
 *
 * A finger together with its turn is called a stance here and has the number finger * 4 + turn, so that the
 * document's order of layouts (by finger, then by turn) is the order of these numbers, and a set of stances
 * is 32 bits.
 */
public final class FingerRows {
    public static final int NONE = -1;

    private static final int MOST_PAIRS = 8;
    private static final int MOST_FINGERS = 8;
    private static final int MOST_PINS = 6;
    private static final int MOST_BLOCKS = 6;
    private static final int MOST_LINES = 20;
    private static final int MOST_BYTES = 400;
    private static final int MOST_REMEMBERED = 8;
    private static final int MOST_SHORT = 20;

    private static final int NETS = 12;
    private static final int TRACKS = 12;
    private static final int LAST_COLUMN = 40;
    private static final int MOST_WIDE = 40;
    private static final int TURNS = 4;
    private static final int ALL_TURNS = 15;
    private static final int BOTH_TURNED = 3;
    private static final int STANCES = 32;
    private static final int SETS = 256;
    private static final int COLUMNS = 24;

    private static final int UP = 0;
    private static final int LOW = 1;

    private static final int GATE_PART = 0;
    private static final int UP_PART = 1;
    private static final int LOW_PART = 3;
    private static final int WIDE_PART = 5;
    private static final int PAIR_PARTS = 6;
    private static final int BLOCK_PARTS = 3;

    // more than any row of 8 fingers can have of gaps or breaks
    private static final int FAR = 1000;

    private final Tape tape;
    private final Orders one;
    private final Orders two;
    private final Row row;
    private final Row keptRow;
    private final Past past;
    private final Columns columns;
    private final Wires wires;
    private final Row trialRow;
    private final Columns trialColumns;
    private final Wires trialWires;
    private final Advice advice;
    private Orders told;
    private Orders kept;
    private Cell draft;

    public FingerRows() {
        int[] calms = new int[SETS * STANCES];
        tape = new Tape();
        one = new Orders(calms);
        two = new Orders(calms);
        row = new Row();
        keptRow = new Row();
        past = new Past();
        columns = new Columns();
        wires = new Wires();
        trialRow = new Row();
        trialColumns = new Columns();
        trialWires = new Wires();
        advice = new Advice();
        told = one;
        kept = null;
        draft = new Cell();
        told.prepare();
        redraw();
    }

    // ---- the text

    public int feed(int a, int b, int c, int d, int e) {
        if (!tape.hasRoom()) {
            return NONE;
        }
        tape.take(a);
        tape.take(b);
        tape.take(c);
        tape.take(d);
        tape.take(e);
        return tape.length;
    }

    public boolean end(int n) {
        if (n < 0 || n > tape.length) {
            return false;
        }
        tape.length = n;
        return true;
    }

    public int cell() throws IllegalArgumentException {
        if (!tape.readInto(draft)) {
            throw new IllegalArgumentException("the text is wrong");
        }
        // the image's cell must outlive this text
        Orders next = told == kept ? notKept() : told;
        draft = next.exchange(draft);
        next.prepare();
        told = next;
        row.reset(told.cell.fingers);
        past.forget();
        redraw();
        return told.cell.fingers;
    }

    public int fault() {
        return tape.fault;
    }

    // ---- what is there

    public int pair(int pair, int what) throws IndexOutOfBoundsException, NoSuchElementException {
        if (pair < 0 || pair >= told.cell.pairs) {
            throw new IndexOutOfBoundsException("there is no such pair");
        }
        if (what < 0 || what > PAIR_PARTS) {
            throw new NoSuchElementException("a pair has no such thing");
        }
        return what == PAIR_PARTS ? told.cell.fingersOf(pair) : told.cell.partOf(pair, what);
    }

    public int at(int place, int what) throws IndexOutOfBoundsException, NoSuchElementException {
        if (!isPlace(place)) {
            throw new IndexOutOfBoundsException("there is no such place");
        }
        int finger = row.fingerAt(place);
        switch (what) {
            case 0:
                return finger;
            case 1:
                return told.cell.pairOf[finger];
            case 2:
                return row.turnAt(place);
            case 3:
                return columns.gateAt[place];
            case 4:
                return row.joinsNext(told.cell, place) ? 1 : 0;
            case 5:
                return columns.readBack(told.cell, told.cell.pairOf[finger], place) ? 1 : 0;
            default:
                throw new NoSuchElementException("a place has no such thing");
        }
    }

    public int column(int column, int what) throws IndexOutOfBoundsException, NoSuchElementException {
        if (column < 0 || column >= columns.span) {
            throw new IndexOutOfBoundsException("there is no such column");
        }
        switch (what) {
            case 0:
                return columns.up[column];
            case 1:
                return columns.low[column];
            case 2:
                return columns.gate[column];
            case 3:
                return wires.cut[column];
            default:
                throw new NoSuchElementException("a column has no such thing");
        }
    }

    public int net(int net, int what) throws IndexOutOfBoundsException, NoSuchElementException {
        if (!isNet(net)) {
            throw new IndexOutOfBoundsException("there is no such net");
        }
        switch (what) {
            case 0:
                return wires.least[net];
            case 1:
                return wires.greatest[net];
            case 2:
                return wires.howMany[net];
            case 3:
                return told.cell.rails >> net & 1;
            case 4:
                return told.cell.pins >> net & 1;
            case 5:
                return wires.pinAt[net];
            case 6:
                return wires.first[net];
            case 7:
                return wires.last[net];
            case 8:
                return wires.track[net];
            default:
                throw new NoSuchElementException("a net has no such thing");
        }
    }

    public int layout(int what) throws NoSuchElementException {
        switch (what) {
            case 0:
                return columns.gaps;
            case 1:
                return columns.breaks;
            case 2:
                return columns.span;
            case 3:
                return wires.total();
            case 4:
                return wires.greatestCut(columns.span);
            case 5:
                return wires.worst(columns.span);
            case 6:
                return Integer.bitCount(wires.usedTracks());
            case 7:
                return wires.lost();
            case 8:
                return wires.height();
            case 9:
                return wires.totalLength();
            case 10:
                return wires.stretch;
            case 11:
                return columns.isSame() ? 1 : 0;
            default:
                throw new NoSuchElementException("a layout has no such thing");
        }
    }

    // ---- what is asked of all orders

    public int least() {
        return told.any.gaps[told.cell.allFingers()];
    }

    public long many() {
        return told.total();
    }

    public int best(long k, int place, boolean turn) throws IndexOutOfBoundsException, IllegalArgumentException {
        if (!isPlace(place)) {
            throw new IndexOutOfBoundsException("there is no such place");
        }
        if (k < 0 || k >= told.total()) {
            throw new IllegalArgumentException("there is no such best one");
        }
        told.layInto(k, trialRow);
        return turn ? trialRow.turnAt(place) : trialRow.fingerAt(place);
    }

    public int calm() {
        return told.calmest[told.cell.allFingers()];
    }

    public int with(int first, int last) throws IndexOutOfBoundsException {
        if (!isFinger(first) || !isFinger(last)) {
            throw new IndexOutOfBoundsException("there is no such finger");
        }
        return told.fewestBetween(first, last);
    }

    public int bound(boolean up) {
        return told.cell.oddBound(up ? UP : LOW);
    }

    public boolean agrees() {
        return least() == Math.max(bound(true), bound(false));
    }

    public int ofSet(int set) throws IllegalArgumentException {
        if ((set & ~told.cell.allFingers()) != 0) {
            throw new IllegalArgumentException("there is no such finger");
        }
        return told.any.gaps[set];
    }

    public int parted(int n, boolean which) throws IllegalArgumentException {
        if (n < 0 || n > told.cell.fingers) {
            throw new IllegalArgumentException("there are not so many fingers");
        }
        int set = told.partingSet(n);
        return which ? set : told.partedGaps(set);
    }

    public int dearest() {
        return told.dearestFinger();
    }

    public int ties() {
        return told.cell.tiedPairs();
    }

    public int lonely() {
        return told.cell.lonelyFingers();
    }

    public int better(int what) throws NoSuchElementException {
        if (what < 0 || what >= Advice.PARTS) {
            throw new NoSuchElementException("there is no such thing of the better one");
        }
        advice.seek(told.cell, row, trialRow);
        return advice.parts[what];
    }

    public int shortest(int n, boolean length) throws IllegalArgumentException {
        if (n < 1 || n > MOST_SHORT) {
            throw new IllegalArgumentException("there is no such number of best ones");
        }
        int shortest = 0;
        int shortestLength = lengthOf(0);
        for (int k = 1; k < n && k < told.total(); k++) {
            int nextLength = lengthOf(k);
            if (nextLength < shortestLength) {
                shortest = k;
                shortestLength = nextLength;
            }
        }
        return length ? shortestLength : shortest;
    }

    public long neighbours(int finger, int other) throws IndexOutOfBoundsException, IllegalArgumentException {
        if (!isFinger(finger) || !isFinger(other)) {
            throw new IndexOutOfBoundsException("there is no such finger");
        }
        if (finger == other) {
            throw new IllegalArgumentException("both are one");
        }
        // mirrored, a best one is a best one: each of the two is ahead of the other equally often
        return 2 * told.waysAhead(finger, other);
    }

    public long starts(int finger) throws IndexOutOfBoundsException {
        if (!isFinger(finger)) {
            throw new IndexOutOfBoundsException("there is no such finger");
        }
        return told.waysFrom(finger);
    }

    // ---- by hand

    public int turn(int place, int turn) throws IndexOutOfBoundsException, IllegalArgumentException {
        if (!isPlace(place)) {
            throw new IndexOutOfBoundsException("there is no such place");
        }
        if (turn < 0 || turn >= TURNS) {
            throw new IllegalArgumentException("there is no such turn");
        }
        int before = row.turnAt(place);
        past.remember(row);
        row.setTurn(place, turn);
        redraw();
        return before;
    }

    public int move(int place, int to) throws IndexOutOfBoundsException, IllegalArgumentException {
        if (!isPlace(place) || !isPlace(to)) {
            throw new IndexOutOfBoundsException("there is no such place");
        }
        if (place == to) {
            throw new IllegalArgumentException("both places are one");
        }
        past.remember(row);
        row.shift(place, to);
        redraw();
        return columns.gaps;
    }

    public int mirror() throws IllegalStateException {
        if (row.size == 0) {
            throw new IllegalStateException("there are no fingers");
        }
        past.remember(row);
        row.flip();
        redraw();
        return columns.gaps;
    }

    public int lay(long k) throws IllegalArgumentException {
        if (k < 0 || k >= told.total()) {
            throw new IllegalArgumentException("there is no such best one");
        }
        past.remember(row);
        told.layInto(k, row);
        redraw();
        return columns.gaps;
    }

    public int undo() throws IllegalStateException {
        if (past.size == 0) {
            throw new IllegalStateException("nothing is remembered");
        }
        past.takeBack(row);
        redraw();
        return past.size;
    }

    // ---- tracks

    public int fits(int net, int track) throws IndexOutOfBoundsException, IllegalArgumentException {
        if (!isNet(net)) {
            throw new IndexOutOfBoundsException("there is no such net");
        }
        if (track < 0 || track >= TRACKS) {
            throw new IllegalArgumentException("there is no such track");
        }
        if (!wires.hasWire(net)) {
            return NONE;
        }
        return wires.isFree(told.cell, net, track) ? 1 : 0;
    }

    public int room(int net) throws IndexOutOfBoundsException {
        if (!isNet(net)) {
            throw new IndexOutOfBoundsException("there is no such net");
        }
        return wires.hasWire(net) ? wires.freeTracks(told.cell, net) : NONE;
    }

    // ---- the image

    public void image() {
        kept = told;
        keptRow.copyFrom(row);
    }

    public boolean back() {
        if (kept == null) {
            return false;
        }
        told = kept;
        row.copyFrom(keptRow);
        past.forget();
        redraw();
        return true;
    }

    public int count(int what) {
        switch (what) {
            case 0:
                return told.cell.pairs;
            case 1:
                return told.cell.fingers;
            case 2:
                return told.cell.rails;
            case 3:
                return told.cell.pins;
            case 4:
                return told.cell.blocks;
            case 5:
                return told.cell.unit;
            case 6:
                return told.cell.pitch;
            case 7:
                return past.size;
            default:
                return NONE;
        }
    }

    private boolean isPlace(int place) {
        return place >= 0 && place < row.size;
    }

    private boolean isFinger(int finger) {
        return finger >= 0 && finger < told.cell.fingers;
    }

    private static boolean isNet(int net) {
        return net >= 0 && net < NETS;
    }

    private Orders notKept() {
        return kept == one ? two : one;
    }

    private void redraw() {
        columns.draw(told.cell, row);
        wires.draw(told.cell, columns);
        wires.assignTracks(told.cell, columns.span);
    }

    private int lengthOf(int k) {
        told.layInto(k, trialRow);
        trialColumns.draw(told.cell, trialRow);
        trialWires.draw(told.cell, trialColumns);
        return trialWires.totalLength();
    }

    private static int lowestBit(int bits) {
        return Integer.bitCount((bits & -bits) - 1);
    }

    private static int without(int set, int finger) {
        return set & ~(1 << finger);
    }

    private static boolean has(int set, int finger) {
        return (set >> finger & 1) != 0;
    }

    private static boolean overlap(int first, int last, int otherFirst, int otherLast) {
        return first <= otherLast && otherFirst <= last;
    }

    /** THE CELL as a text told it, and which stances meet. */
    private static final class Cell {
        int unit;
        int pitch;
        int rails;
        int pins;
        int pairs;
        int fingers;
        int blocks;
        final int[] parts = new int[MOST_PAIRS * PAIR_PARTS];
        final int[] pairOf = new int[MOST_FINGERS];
        final int[] blockParts = new int[MOST_BLOCKS * BLOCK_PARTS];
        // of UP, then of LOW: by a net, the stances whose left net it is
        private final int[] leftOf = new int[2 * NETS];
        // of UP, then of LOW: by a stance, the stances that meet it from behind
        private final int[] meeting = new int[2 * STANCES];

        void clear() {
            unit = 0;
            pitch = 0;
            rails = 0;
            pins = 0;
            pairs = 0;
            fingers = 0;
            blocks = 0;
        }

        int allFingers() {
            return (1 << fingers) - 1;
        }

        int partOf(int pair, int part) {
            return parts[pair * PAIR_PARTS + part];
        }

        int gateOf(int finger) {
            return partOf(pairOf[finger], GATE_PART);
        }

        int fingersOf(int pair) {
            int set = 0;
            for (int finger = 0; finger < fingers; finger++) {
                if (pairOf[finger] == pair) {
                    set |= 1 << finger;
                }
            }
            return set;
        }

        /** The six parts of the next pair stand already; false if there would be too many fingers. */
        boolean addPair() {
            int wide = partOf(pairs, WIDE_PART);
            int more = unit < 1 ? MOST_FINGERS + 1 : (wide + unit - 1) / unit;
            if (fingers + more > MOST_FINGERS) {
                return false;
            }
            for (int i = 0; i < more; i++) {
                pairOf[fingers + i] = pairs;
            }
            fingers += more;
            pairs++;
            return true;
        }

        int netOf(int stance, int line, boolean right) {
            boolean turned = (stance >> line & 1) != 0;
            int part = line == UP ? UP_PART : LOW_PART;
            return partOf(pairOf[stance / TURNS], turned == right ? part : part + 1);
        }

        void findMeetings() {
            for (int i = 0; i < 2 * NETS; i++) {
                leftOf[i] = 0;
            }
            for (int line = UP; line <= LOW; line++) {
                for (int stance = 0; stance < fingers * TURNS; stance++) {
                    leftOf[line * NETS + netOf(stance, line, false)] |= 1 << stance;
                }
                for (int stance = 0; stance < fingers * TURNS; stance++) {
                    meeting[line * STANCES + stance] = leftOf[line * NETS + netOf(stance, line, true)];
                }
            }
        }

        int joining(int stance) {
            return meeting[stance] & meeting[STANCES + stance];
        }

        int meetingAtAll(int stance) {
            return meeting[stance] | meeting[STANCES + stance];
        }

        boolean areJoined(int stance, int next) {
            return (joining(stance) >>> next & 1) != 0;
        }

        int breaksBetween(int stance, int next) {
            return 2 - (meeting[stance] >>> next & 1) - (meeting[STANCES + stance] >>> next & 1);
        }

        boolean areTied(int finger, int next) {
            for (int turn = 0; turn < TURNS; turn++) {
                if ((joining(finger * TURNS + turn) >>> next * TURNS & ALL_TURNS) != 0) {
                    return true;
                }
            }
            return false;
        }

        int tiedPairs() {
            int tied = 0;
            for (int finger = 0; finger < fingers; finger++) {
                for (int next = 0; next < fingers; next++) {
                    if (finger != next && areTied(finger, next)) {
                        tied++;
                    }
                }
            }
            return tied;
        }

        int lonelyFingers() {
            int lonely = allFingers();
            for (int finger = 0; finger < fingers; finger++) {
                for (int next = 0; next < fingers; next++) {
                    if (finger != next && areTied(finger, next)) {
                        lonely = without(without(lonely, finger), next);
                    }
                }
            }
            return lonely;
        }

        int oddBound(int line) {
            if (fingers == 0) {
                return 0;
            }
            int odd = 0;
            for (int finger = 0; finger < fingers; finger++) {
                odd ^= 1 << netOf(finger * TURNS, line, false);
                odd ^= 1 << netOf(finger * TURNS, line, true);
            }
            int seen = 0;
            int sum = 0;
            for (int finger = 0; finger < fingers; finger++) {
                int net = netOf(finger * TURNS, line, false);
                if (!has(seen, net)) {
                    int part = tiedNets(line, net);
                    seen |= part;
                    sum += Math.max(1, Integer.bitCount(odd & part) / 2);
                }
            }
            return sum - 1;
        }

        private int tiedNets(int line, int net) {
            int part = 1 << net;
            // each round but the last ties one finger more at least
            for (int round = 0; round < fingers; round++) {
                for (int finger = 0; finger < fingers; finger++) {
                    int ends = 1 << netOf(finger * TURNS, line, false) | 1 << netOf(finger * TURNS, line, true);
                    if ((ends & part) != 0) {
                        part |= ends;
                    }
                }
            }
            return part;
        }
    }

    /** The TAPE, and how its text is read: after the first wrong byte all reading answers 0 and moves no more. */
    private static final class Tape {
        private static final int BLANK = 32;
        private static final int ITEM = 20;

        int length = 0;
        int fault = NONE;
        private final byte[] bytes = new byte[MOST_BYTES];
        private int spot = 0;
        private int begin = 0;

        boolean hasRoom() {
            return length + ITEM <= MOST_BYTES;
        }

        void take(int number) {
            for (int shift = 24; shift >= 0 && length < MOST_BYTES; shift -= 8) {
                bytes[length] = (byte) (number >> shift);
                length++;
            }
        }

        boolean readInto(Cell cell) {
            cell.clear();
            fault = NONE;
            spot = 0;
            expectWord("cell");
            cell.unit = readNumber(1, 9);
            cell.pitch = readNumber(1, 4);
            for (int lines = 0; lines <= MOST_LINES && anotherLine(); lines++) {
                readLine(cell, lines);
            }
            length = 0;
            return fault == NONE;
        }

        private void readLine(Cell cell, int lines) {
            readWord();
            int word = begin;
            if (fault != NONE) {
                return;
            }
            if (lines == MOST_LINES) {
                fail(word);
            } else if (wordIs("pair")) {
                readPair(cell, word);
            } else if (wordIs("rail")) {
                cell.rails |= 1 << readNewNet(cell.rails);
            } else if (wordIs("pin")) {
                readPin(cell, word);
            } else if (wordIs("block")) {
                readBlock(cell, word);
            } else {
                fail(word);
            }
        }

        private void readPair(Cell cell, int word) {
            if (cell.pairs >= MOST_PAIRS) {
                fail(word);
                return;
            }
            int spotOfParts = cell.pairs * PAIR_PARTS;
            cell.parts[spotOfParts + GATE_PART] = readNet();
            expectWord("up");
            cell.parts[spotOfParts + UP_PART] = readNet();
            cell.parts[spotOfParts + UP_PART + 1] = readNet();
            expectWord("low");
            cell.parts[spotOfParts + LOW_PART] = readNet();
            cell.parts[spotOfParts + LOW_PART + 1] = readNet();
            cell.parts[spotOfParts + WIDE_PART] = passWord("wide") ? readNumber(1, MOST_WIDE) : 1;
            if (fault == NONE && !cell.addPair()) {
                fail(word);
            }
        }

        private void readPin(Cell cell, int word) {
            if (Integer.bitCount(cell.pins) >= MOST_PINS) {
                fail(word);
                return;
            }
            cell.pins |= 1 << readNewNet(cell.pins);
        }

        private void readBlock(Cell cell, int word) {
            if (cell.blocks >= MOST_BLOCKS) {
                fail(word);
                return;
            }
            int spotOfParts = cell.blocks * BLOCK_PARTS;
            int track = readNumber(0, TRACKS - 1);
            int first = readNumber(0, LAST_COLUMN);
            int last = readNumber(first, LAST_COLUMN);
            cell.blockParts[spotOfParts] = track;
            cell.blockParts[spotOfParts + 1] = first;
            cell.blockParts[spotOfParts + 2] = last;
            cell.blocks++;
        }

        private int readNet() {
            return readNumber(0, NETS - 1);
        }

        private int readNewNet(int nets) {
            int net = readNumber(0, NETS - 1);
            if (fault == NONE && has(nets, net)) {
                fail(begin);
            }
            return net;
        }

        /** Whether a line must come: false at the end of the text, and at what is neither. */
        private boolean anotherLine() {
            skipBlanks();
            if (fault != NONE || spot >= length) {
                return false;
            }
            if (bytes[spot] != ';') {
                fail(spot);
                return false;
            }
            spot++;
            return true;
        }

        private int readNumber(int lowest, int highest) {
            skipBlanks();
            int value = 0;
            int digits = 0;
            while (fault == NONE && spot < length && bytes[spot] >= '0' && bytes[spot] <= '9') {
                // of a third digit on the number is wrong anyway
                value = digits < 2 ? value * 10 + bytes[spot] - '0' : value;
                digits++;
                spot++;
            }
            if (digits < 1 || digits > 2 || value < lowest || value > highest) {
                fail(begin);
                return 0;
            }
            return value;
        }

        private void expectWord(String word) {
            readWord();
            if (!wordIs(word)) {
                fail(begin);
            }
        }

        private boolean passWord(String word) {
            skipBlanks();
            goThroughWord();
            if (fault == NONE && wordIs(word)) {
                return true;
            }
            spot = begin;
            return false;
        }

        private void readWord() {
            skipBlanks();
            goThroughWord();
            if (spot == begin) {
                fail(begin);
            }
        }

        private void goThroughWord() {
            while (fault == NONE && spot < length && bytes[spot] >= 'a' && bytes[spot] <= 'z') {
                spot++;
            }
        }

        private boolean wordIs(String word) {
            if (spot - begin != word.length()) {
                return false;
            }
            for (int i = 0; i < word.length(); i++) {
                if (bytes[begin + i] != word.charAt(i)) {
                    return false;
                }
            }
            return true;
        }

        /** What comes next begins behind the blanks; at the end of the text that is its length. */
        private void skipBlanks() {
            while (fault == NONE && spot < length && bytes[spot] == BLANK) {
                spot++;
            }
            begin = spot;
        }

        private void fail(int at) {
            if (fault == NONE) {
                fault = at;
            }
        }
    }

    /**
     * Of each set of fingers the fewest gaps of any order. A stance ahead of the rest of its set costs one gap
     * more than the rest, unless it joins one of the stances with which the rest has its fewest: for no other
     * one could be the cheaper.
     */
    private static final class Fewest {
        final int[] gaps = new int[SETS];
        // the stances that an order with the fewest gaps begins with, and those of orders with one gap more
        final int[] firsts = new int[SETS];
        final int[] seconds = new int[SETS];

        /** Of all orders of each set, or of those alone that end with a finger. */
        void fill(Cell cell, int end) {
            int all = cell.allFingers();
            gaps[0] = 0;
            firsts[0] = 0;
            seconds[0] = 0;
            for (int set = 1; set <= all && set < SETS; set++) {
                fillSet(cell, set, end);
            }
        }

        private void fillSet(Cell cell, int set, int end) {
            int fewest = FAR;
            int first = 0;
            int second = 0;
            for (int finger = 0; finger < cell.fingers; finger++) {
                if (!mayBegin(set, finger, end)) {
                    continue;
                }
                for (int stance = finger * TURNS; stance < finger * TURNS + TURNS; stance++) {
                    int cost = gapsFrom(cell, set, stance);
                    if (cost < fewest) {
                        second = cost == fewest - 1 ? first : 0;
                        first = 0;
                        fewest = cost;
                    }
                    first |= cost == fewest ? 1 << stance : 0;
                    second |= cost == fewest + 1 ? 1 << stance : 0;
                }
            }
            gaps[set] = fewest;
            firsts[set] = first;
            seconds[set] = second;
        }

        private static boolean mayBegin(int set, int finger, int end) {
            if (!has(set, finger)) {
                return false;
            }
            if (end == NONE) {
                return true;
            }
            return has(set, end) && (finger == end) == (set == 1 << end);
        }

        /** The fewest gaps of the orders of a set that begin with a stance of it. */
        int gapsFrom(Cell cell, int set, int stance) {
            int rest = without(set, stance / TURNS);
            if (rest == 0) {
                return 0;
            }
            return gaps[rest] + ((firsts[rest] & cell.joining(stance)) != 0 ? 0 : 1);
        }

        /** Which stances of the rest may stand behind a stance so that there are no more gaps than must be. */
        int nexts(Cell cell, int rest, int stance) {
            int joined = firsts[rest] & cell.joining(stance);
            if (joined != 0) {
                return joined;
            }
            return firsts[rest] | seconds[rest] & cell.joining(stance);
        }
    }

    /** All that is asked of all orders of a cell's fingers. */
    private static final class Orders {
        Cell cell = new Cell();
        final Fewest any = new Fewest();
        // by a set of fingers: how many of its orders have its fewest gaps, and the fewest breaks of these
        final long[] totals = new long[SETS];
        final int[] calmest = new int[SETS];
        private final Fewest ending = new Fewest();
        // by a set and a stance of it the same of those orders that begin so
        private final int[] ways = new int[SETS * STANCES];
        // this row is lent: it is used in prepare() alone
        private final int[] calms;

        Orders(int[] calms) {
            this.calms = calms;
        }

        Cell exchange(Cell next) {
            Cell before = cell;
            cell = next;
            return before;
        }

        long total() {
            return totals[cell.allFingers()];
        }

        void prepare() {
            cell.findMeetings();
            any.fill(cell, NONE);
            totals[0] = 1;
            calmest[0] = 0;
            int all = cell.allFingers();
            for (int set = 1; set <= all && set < SETS; set++) {
                weighSet(set);
            }
        }

        private void weighSet(int set) {
            for (int stance = 0; stance < cell.fingers * TURNS; stance++) {
                if (has(set, stance / TURNS)) {
                    weigh(set, stance);
                }
            }
            totals[set] = waysOver(set, any.firsts[set]);
            int fewest = FAR;
            for (int stance = 0; stance < cell.fingers * TURNS; stance++) {
                if ((any.firsts[set] >>> stance & 1) != 0) {
                    fewest = Math.min(fewest, calms[set * STANCES + stance]);
                }
            }
            calmest[set] = fewest;
        }

        private void weigh(int set, int stance) {
            int spot = set * STANCES + stance;
            int rest = without(set, stance / TURNS);
            int firsts = any.firsts[rest];
            int joining = cell.joining(stance);
            if (rest == 0) {
                ways[spot] = 1;
                calms[spot] = 0;
            } else if ((firsts & joining) != 0) {
                ways[spot] = (int) waysOver(rest, firsts & joining);
                calms[spot] = calmOver(rest, firsts & joining, stance);
            } else {
                // behind a gap any of the firsts may stand: those that meet nowhere need no look of their own
                int seconds = any.seconds[rest] & joining;
                ways[spot] = (int) (totals[rest] + waysOver(rest, seconds));
                calms[spot] = Math.min(2 + calmest[rest],
                    calmOver(rest, firsts & cell.meetingAtAll(stance) | seconds, stance));
            }
        }

        private long waysOver(int set, int stances) {
            long sum = 0;
            int rest = stances;
            for (int left = Integer.bitCount(stances); left > 0; left--) {
                sum += ways[set * STANCES + lowestBit(rest)];
                rest &= rest - 1;
            }
            return sum;
        }

        private int calmOver(int set, int stances, int ahead) {
            int fewest = FAR;
            int rest = stances;
            for (int left = Integer.bitCount(stances); left > 0; left--) {
                int next = lowestBit(rest);
                fewest = Math.min(fewest, cell.breaksBetween(ahead, next) + calms[set * STANCES + next]);
                rest &= rest - 1;
            }
            return fewest;
        }

        /** The k-th best one; k is below total(). */
        void layInto(long k, Row row) {
            int set = cell.allFingers();
            int nexts = any.firsts[set];
            long ahead = k;
            row.reset(cell.fingers);
            for (int place = 0; place < cell.fingers; place++) {
                int stance = lowestBit(nexts);
                for (int left = Integer.bitCount(nexts); left > 1; left--) {
                    int passed = ways[set * STANCES + stance];
                    if (ahead < passed) {
                        break;
                    }
                    ahead -= passed;
                    nexts &= nexts - 1;
                    stance = lowestBit(nexts);
                }
                row.stances[place] = stance;
                set = without(set, stance / TURNS);
                nexts = any.nexts(cell, set, stance);
            }
        }

        int fewestBetween(int first, int last) {
            if (first == last) {
                return cell.fingers == 1 ? 0 : NONE;
            }
            ending.fill(cell, last);
            int fewest = FAR;
            for (int turn = 0; turn < TURNS; turn++) {
                fewest = Math.min(fewest, ending.gapsFrom(cell, cell.allFingers(), first * TURNS + turn));
            }
            return fewest;
        }

        int partedGaps(int set) {
            return any.gaps[set] + any.gaps[cell.allFingers() & ~set];
        }

        int partingSet(int n) {
            int all = cell.allFingers();
            int best = NONE;
            for (int set = 0; set <= all; set++) {
                if (Integer.bitCount(set) == n && (best == NONE || partedGaps(set) < partedGaps(best))) {
                    best = set;
                }
            }
            return Math.max(best, 0);
        }

        int dearestFinger() {
            int all = cell.allFingers();
            int dearest = NONE;
            int fewest = FAR;
            for (int finger = 0; finger < cell.fingers; finger++) {
                if (any.gaps[without(all, finger)] < fewest) {
                    dearest = finger;
                    fewest = any.gaps[without(all, finger)];
                }
            }
            return dearest;
        }

        long waysFrom(int finger) {
            int all = cell.allFingers();
            return waysOver(all, any.firsts[all] & ALL_TURNS << finger * TURNS);
        }

        /** In how many best ones a finger stands just ahead of another one: by all sets that end with the first. */
        long waysAhead(int finger, int next) {
            int all = cell.allFingers();
            long sum = 0;
            for (int set = 0; set <= all; set++) {
                if (has(set, finger) && !has(set, next)) {
                    sum += waysAcross(set, finger, next);
                }
            }
            return sum;
        }

        private long waysAcross(int set, int finger, int next) {
            int all = cell.allFingers();
            int rest = all & ~set;
            long sum = 0;
            for (int i = 0; i < TURNS * TURNS; i++) {
                int stance = finger * TURNS + i / TURNS;
                int behind = next * TURNS + i % TURNS;
                // an order of the set that ends with a stance is, mirrored, one that begins with it turned
                int begin = stance ^ BOTH_TURNED;
                int gaps = any.gapsFrom(cell, set, begin) + any.gapsFrom(cell, rest, behind);
                if (gaps + (cell.areJoined(stance, behind) ? 0 : 1) == any.gaps[all]) {
                    sum += (long) ways[set * STANCES + begin] * ways[rest * STANCES + behind];
                }
            }
            return sum;
        }
    }

    /** A LAYOUT: stances by places. */
    private static final class Row {
        int size = 0;
        final int[] stances = new int[MOST_FINGERS];

        void reset(int fingers) {
            size = fingers;
            for (int place = 0; place < size; place++) {
                stances[place] = place * TURNS;
            }
        }

        void copyFrom(Row from) {
            size = from.size;
            for (int place = 0; place < size; place++) {
                stances[place] = from.stances[place];
            }
        }

        int fingerAt(int place) {
            return stances[place] / TURNS;
        }

        int turnAt(int place) {
            return stances[place] % TURNS;
        }

        void setTurn(int place, int turn) {
            stances[place] = fingerAt(place) * TURNS + turn;
        }

        void shift(int place, int to) {
            int stance = stances[place];
            for (int i = place; i < to; i++) {
                stances[i] = stances[i + 1];
            }
            for (int i = place; i > to; i--) {
                stances[i] = stances[i - 1];
            }
            stances[to] = stance;
        }

        void flip() {
            for (int i = 0; i < size - 1 - i; i++) {
                int stance = stances[i];
                stances[i] = stances[size - 1 - i];
                stances[size - 1 - i] = stance;
            }
            for (int i = 0; i < size; i++) {
                stances[i] ^= BOTH_TURNED;
            }
        }

        boolean joinsNext(Cell cell, int place) {
            return place + 1 < size && cell.areJoined(stances[place], stances[place + 1]);
        }

        int countGaps(Cell cell) {
            int gaps = 0;
            for (int place = 0; place + 1 < size; place++) {
                gaps += joinsNext(cell, place) ? 0 : 1;
            }
            return gaps;
        }
    }

    /** The layouts that can be gone back to, in a ring: the oldest gives way. */
    private static final class Past {
        int size = 0;
        private int next = 0;
        private final Row[] rows = new Row[MOST_REMEMBERED];

        Past() {
            for (int i = 0; i < MOST_REMEMBERED; i++) {
                rows[i] = new Row();
            }
        }

        void remember(Row row) {
            rows[next].copyFrom(row);
            next = (next + 1) % MOST_REMEMBERED;
            size = Math.min(size + 1, MOST_REMEMBERED);
        }

        /** There must be one. */
        void takeBack(Row row) {
            next = (next + MOST_REMEMBERED - 1) % MOST_REMEMBERED;
            size--;
            row.copyFrom(rows[next]);
        }

        void forget() {
            size = 0;
        }
    }

    /** The COLUMNS of a layout. */
    private static final class Columns {
        int gaps;
        int breaks;
        int span;
        final int[] up = new int[COLUMNS];
        final int[] low = new int[COLUMNS];
        final int[] gate = new int[COLUMNS];
        final int[] gateAt = new int[MOST_FINGERS];

        void draw(Cell cell, Row row) {
            gaps = 0;
            breaks = 0;
            span = 0;
            for (int place = 0; place < row.size; place++) {
                int stance = row.stances[place];
                boolean joined = place > 0 && row.joinsNext(cell, place - 1);
                if (place > 0 && !joined) {
                    gaps++;
                    breaks += cell.breaksBetween(row.stances[place - 1], stance);
                }
                if (!joined) {
                    put(cell.netOf(stance, UP, false), cell.netOf(stance, LOW, false), NONE);
                }
                gateAt[place] = span;
                put(NONE, NONE, cell.gateOf(row.fingerAt(place)));
                put(cell.netOf(stance, UP, true), cell.netOf(stance, LOW, true), NONE);
            }
        }

        private void put(int upNet, int lowNet, int gateNet) {
            if (span < COLUMNS) {
                up[span] = upNet;
                low[span] = lowNet;
                gate[span] = gateNet;
                span++;
            }
        }

        boolean readBack(Cell cell, int pair, int place) {
            int middle = gateAt[place];
            if (middle < 1 || middle + 1 >= span || gate[middle] != cell.partOf(pair, GATE_PART)) {
                return false;
            }
            return areThese(up[middle - 1], up[middle + 1], cell, pair, UP_PART)
                && areThese(low[middle - 1], low[middle + 1], cell, pair, LOW_PART);
        }

        private static boolean areThese(int left, int right, Cell cell, int pair, int part) {
            int one = cell.partOf(pair, part);
            int two = cell.partOf(pair, part + 1);
            return left == one && right == two || left == two && right == one;
        }

        boolean isSame() {
            for (int i = 0; i < span; i++) {
                int j = span - 1 - i;
                if (up[i] != up[j] || low[i] != low[j] || gate[i] != gate[j]) {
                    return false;
                }
            }
            return true;
        }
    }

    /** Where the nets of a layout are: their columns, PINNING, WIRES and TRACKS. */
    private static final class Wires {
        int stretch;
        final int[] least = new int[NETS];
        final int[] greatest = new int[NETS];
        final int[] howMany = new int[NETS];
        final int[] pinAt = new int[NETS];
        final int[] first = new int[NETS];
        final int[] last = new int[NETS];
        final int[] track = new int[NETS];
        final int[] cut = new int[COLUMNS];
        private final Pins pins = new Pins();

        void draw(Cell cell, Columns columns) {
            for (int net = 0; net < NETS; net++) {
                least[net] = NONE;
                greatest[net] = NONE;
                howMany[net] = 0;
                track[net] = NONE;
            }
            for (int column = 0; column < columns.span; column++) {
                note(columns.up[column], column);
                note(columns.low[column], column);
                note(columns.gate[column], column);
                cut[column] = 0;
            }
            stretch = pins.place(cell, this, columns.span);
            for (int net = 0; net < NETS; net++) {
                drawWire(net, has(cell.rails, net));
            }
        }

        private void note(int net, int column) {
            if (net == NONE || greatest[net] == column) {
                return;
            }
            if (least[net] == NONE) {
                least[net] = column;
            }
            greatest[net] = column;
            howMany[net]++;
        }

        private void drawWire(int net, boolean rail) {
            first[net] = NONE;
            last[net] = NONE;
            if (rail || howMany[net] == 0) {
                return;
            }
            int from = least[net];
            int to = greatest[net];
            if (pinAt[net] != NONE) {
                from = Math.min(from, pinAt[net]);
                to = Math.max(to, pinAt[net]);
            }
            if (from == to) {
                return;
            }
            first[net] = from;
            last[net] = to;
            for (int column = from; column <= to; column++) {
                cut[column]++;
            }
        }

        void assignTracks(Cell cell, int span) {
            for (int column = 0; column < span; column++) {
                for (int net = 0; net < NETS; net++) {
                    if (first[net] == column) {
                        track[net] = leastTrack(freeTracks(cell, net));
                    }
                }
            }
        }

        private static int leastTrack(int tracks) {
            return tracks == 0 ? NONE : lowestBit(tracks);
        }

        boolean hasWire(int net) {
            return first[net] != NONE;
        }

        int freeTracks(Cell cell, int net) {
            int tracks = 0;
            for (int t = 0; t < TRACKS; t++) {
                if (isFree(cell, net, t)) {
                    tracks |= 1 << t;
                }
            }
            return tracks;
        }

        boolean isFree(Cell cell, int net, int t) {
            for (int other = 0; other < NETS; other++) {
                if (other != net && track[other] == t && overlap(first[net], last[net], first[other], last[other])) {
                    return false;
                }
            }
            for (int block = 0; block < cell.blocks; block++) {
                int spot = block * BLOCK_PARTS;
                if (cell.blockParts[spot] == t
                    && overlap(first[net], last[net], cell.blockParts[spot + 1], cell.blockParts[spot + 2])) {
                    return false;
                }
            }
            return true;
        }

        int total() {
            int total = 0;
            for (int net = 0; net < NETS; net++) {
                total += hasWire(net) ? 1 : 0;
            }
            return total;
        }

        int greatestCut(int span) {
            int most = 0;
            for (int column = 0; column < span; column++) {
                most = Math.max(most, cut[column]);
            }
            return most;
        }

        int worst(int span) {
            int most = 0;
            int worst = NONE;
            for (int column = 0; column < span; column++) {
                if (cut[column] > most) {
                    most = cut[column];
                    worst = column;
                }
            }
            return worst;
        }

        int usedTracks() {
            int tracks = 0;
            for (int net = 0; net < NETS; net++) {
                tracks |= track[net] == NONE ? 0 : 1 << track[net];
            }
            return tracks;
        }

        int height() {
            int height = 0;
            for (int net = 0; net < NETS; net++) {
                height = Math.max(height, track[net] + 1);
            }
            return height;
        }

        int lost() {
            int lost = 0;
            for (int net = 0; net < NETS; net++) {
                lost += hasWire(net) && track[net] == NONE ? 1 : 0;
            }
            return lost;
        }

        int totalLength() {
            int length = 0;
            for (int net = 0; net < NETS; net++) {
                length += last[net] - first[net];
            }
            return length;
        }
    }

    /**
     * PINNING. A way's price is its stretch, then the columns of its pins, the least net's first, 5 bits each:
     * so the cheapest way is the one that is asked for, and its price tells its columns.
     */
    private static final class Pins {
        private static final int BITS = 5;
        private static final int COLUMN_MASK = 31;
        private static final long NO_WAY = -1;

        private int size;
        private final int[] nets = new int[MOST_PINS];
        // by a pin, of the column that is looked at
        private final long[] offers = new long[MOST_PINS];
        // by the set of pins that have a column yet
        private final long[] prices = new long[1 << MOST_PINS];

        /** The stretch, or NONE if there is no way. */
        int place(Cell cell, Wires wires, int span) {
            collect(cell, wires);
            int all = (1 << size) - 1;
            for (int set = 0; set <= all; set++) {
                prices[set] = NO_WAY;
            }
            prices[0] = 0;
            int step = Math.max(1, cell.pitch);
            for (int column = 0; column < span; column += step) {
                offer(wires, column, all);
            }
            long price = prices[all];
            if (price == NO_WAY) {
                return NONE;
            }
            for (int pin = 0; pin < size; pin++) {
                wires.pinAt[nets[pin]] = (int) (price >> shiftOf(pin)) & COLUMN_MASK;
            }
            return (int) (price >> MOST_PINS * BITS);
        }

        private void collect(Cell cell, Wires wires) {
            size = 0;
            for (int net = 0; net < NETS; net++) {
                wires.pinAt[net] = NONE;
                if (has(cell.pins, net) && wires.howMany[net] > 0 && size < MOST_PINS) {
                    nets[size] = net;
                    size++;
                }
            }
        }

        /** One pin at most takes the column: sets go down, so that none is used that has it already. */
        private void offer(Wires wires, int column, int all) {
            for (int pin = 0; pin < size; pin++) {
                offers[pin] = priceOf(wires, pin, column);
            }
            for (int set = all; set >= 0; set--) {
                long before = prices[set];
                for (int pin = 0; pin < size && before != NO_WAY; pin++) {
                    int more = set | 1 << pin;
                    long price = before + offers[pin];
                    if (more != set && (prices[more] == NO_WAY || price < prices[more])) {
                        prices[more] = price;
                    }
                }
            }
        }

        private long priceOf(Wires wires, int pin, int column) {
            int before = Math.max(0, wires.least[nets[pin]] - column);
            int beyond = Math.max(0, column - wires.greatest[nets[pin]]);
            return ((long) (before + beyond) << MOST_PINS * BITS) + ((long) column << shiftOf(pin));
        }

        private static int shiftOf(int pin) {
            return (MOST_PINS - 1 - pin) * BITS;
        }
    }

    /** BETTER: the best single change by hand. */
    private static final class Advice {
        static final int PARTS = 4;
        private static final int BY_TURN = 1;
        private static final int BY_MOVE = 2;

        // the gaps, by which kind of change, its place, its turn or where it goes to
        final int[] parts = new int[PARTS];

        void seek(Cell cell, Row row, Row trial) {
            for (int i = 0; i < PARTS; i++) {
                parts[i] = NONE;
            }
            for (int place = 0; place < row.size; place++) {
                for (int turn = 0; turn < TURNS; turn++) {
                    if (turn != row.turnAt(place)) {
                        trial.copyFrom(row);
                        trial.setTurn(place, turn);
                        weigh(trial.countGaps(cell), BY_TURN, place, turn);
                    }
                }
            }
            for (int place = 0; place < row.size; place++) {
                for (int to = 0; to < row.size; to++) {
                    if (to != place) {
                        trial.copyFrom(row);
                        trial.shift(place, to);
                        weigh(trial.countGaps(cell), BY_MOVE, place, to);
                    }
                }
            }
        }

        private void weigh(int gaps, int kind, int place, int to) {
            if (parts[0] == NONE || gaps < parts[0]) {
                parts[0] = gaps;
                parts[1] = kind;
                parts[2] = place;
                parts[3] = to;
            }
        }
    }
}
