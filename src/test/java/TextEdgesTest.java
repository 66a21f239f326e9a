/** The edges of the TAPE and of the text: part 1 of the Terms and promises 1 to 6, sentence by sentence. */
public final class TextEdgesTest {
    private static final Class<IllegalArgumentException> NO_ARGUMENT = IllegalArgumentException.class;
    private static final int RIGHT = -2;
    private static final String PAIR = ";pair 1 up 1 2 low 3 4";
    private static final String BLOCK = ";block 0 0 0";
    // 8 pairs, 6 blocks, 5 pins and a rail: 20 lines
    private static final String TWENTY = "cell 1 1" + PAIR.repeat(8) + BLOCK.repeat(6)
        + ";pin 0;pin 1;pin 2;pin 3;pin 4;rail 0";

    public static void main(String[] args) {
        unitAndPitch();
        nets();
        railsAndPins();
        pairs();
        wides();
        blocks();
        fingers();
        lines();
        numbers();
        words();
        blanks();
        firstWrongByte();
        moreMustCome();
        nothingStays();
        inPlaceOfTheOneBefore();
        feed();
        feedFull();
        end();
        cell();
        fault();
        pairAndCount();
        manyCalls();
        Check.close();
    }

    private static int faultOf(String text) {
        return Check.faultOf(new FingerRows(), text);
    }

    private static void right(String... texts) {
        for (String text : texts) {
            Check.due("right is [" + text + "]", RIGHT, faultOf(text));
        }
    }

    private static void wrong(int spot, String... texts) {
        for (String text : texts) {
            Check.due("wrong is [" + text + "]", spot, faultOf(text));
        }
    }

    /** # is a number of these bounds, and wrong at its begin beyond them. */
    private static void bounds(String text, int least, int greatest) {
        int spot = text.indexOf('#');
        for (int n = 0; n < 100; n++) {
            boolean within = n >= least && n <= greatest;
            Check.due(n + " in [" + text + "]", within ? RIGHT : spot, faultOf(text.replace("#", "" + n)));
        }
        wrong(spot, text.replace("#", "-1"), text.replace("#", "100"));
    }

    private static void unitAndPitch() {
        Check.says("UNIT 1 to 9, PITCH 1 to 4");
        bounds("cell # 1", 1, 9);
        bounds("cell 1 #", 1, 4);
        Check.due("the least UNIT", 1, Check.told("cell 1 4").count(5));
        Check.due("the greatest UNIT", 9, Check.told("cell 9 1").count(5));
        Check.due("the least PITCH", 1, Check.told("cell 9 1").count(6));
        Check.due("the greatest PITCH", 4, Check.told("cell 1 4").count(6));
        Check.due("no UNIT without a CELL", 0, new FingerRows().count(5));
        Check.due("no PITCH without a CELL", 0, new FingerRows().count(6));
    }

    private static void nets() {
        Check.says("NETS 0 to 11");
        bounds("cell 1 1;pair # up 5 6 low 7 8", 0, 11);
        bounds("cell 1 1;pair 5 up # 6 low 7 8", 0, 11);
        bounds("cell 1 1;pair 5 up 5 # low 7 8", 0, 11);
        bounds("cell 1 1;pair 5 up 5 6 low # 8", 0, 11);
        bounds("cell 1 1;pair 5 up 5 6 low 7 #", 0, 11);
        bounds("cell 1 1;rail #", 0, 11);
        bounds("cell 1 1;pin #", 0, 11);
        for (int net = 0; net < 12; net++) {
            FingerRows x = Check.told("cell 1 1;pair N up N N low N N;rail N;pin N".replace("N", "" + net));
            for (int what = 0; what < 5; what++) {
                Check.due("net " + net + " of a pair", net, x.pair(0, what));
            }
            Check.due("rail " + net, 1 << net, x.count(2));
            Check.due("pin " + net, 1 << net, x.count(3));
        }
    }

    private static void railsAndPins() {
        Check.says("RAILS (some NETS; none at first), PINS (at most 6 NETS; none at first)");
        Check.due("no RAIL at first", 0, new FingerRows().count(2));
        Check.due("no PIN at first", 0, new FingerRows().count(3));
        Check.due("no RAIL that is not told", 0, Check.told("cell 1 1").count(2));
        Check.due("no PIN that is not told", 0, Check.told("cell 1 1").count(3));
        String all = "cell 1 1;rail 0;rail 1;rail 2;rail 3;rail 4;rail 5;rail 6;rail 7;rail 8;rail 9;rail 10;rail 11";
        Check.due("all NETS are RAILS", 4095, Check.told(all).count(2));
        wrong(all.length() + 6, all + ";rail 11", all + ";rail 12", all + ";rail 0");
        String six = "cell 1 1;pin 11;pin 9;pin 7;pin 5;pin 3;pin 1";
        Check.due("6 PINS", 2 + 8 + 32 + 128 + 512 + 2048, Check.told(six).count(3));
        wrong(six.length() + 1, six + ";pin 0", six + ";pin 1", six + ";pin 12", six + ";pin", six + ";pin x");
        right(six + ";rail 1", "cell 1 1;rail 4;pin 4", "cell 1 1;pin 4;rail 4");

        Check.says("(rail, pin: a NET that is none yet; block: the last no less.)");
        wrong(21, "cell 1 1;rail 4;rail 4", "cell 1 1;rail 4;rail 04");
        wrong(19, "cell 1 1;pin 4;pin 4");
        wrong(28, "cell 1 1;rail 4;pin 4;rail  4");
        wrong(26, "cell 1 1;rail 4;pin 4;pin 4");
        bounds("cell 1 1;block 3 7 #", 7, 40);
        bounds("cell 1 1;block 3 0 #", 0, 40);
        bounds("cell 1 1;block 3 40 #", 40, 40);
        bounds("cell 1 1;block 3 # 40", 0, 40);
        right("cell 1 1" + BLOCK + BLOCK);
    }

    private static void pairs() {
        Check.says("PAIRS (at most 8, numbered from 0 on)");
        String eight = "cell 1 1" + PAIR.repeat(8);
        Check.due("no PAIR", 0, Check.told("cell 1 1").count(0));
        Check.due("one PAIR", 1, Check.told("cell 1 1" + PAIR).count(0));
        Check.due("8 PAIRS", 8, Check.told(eight).count(0));
        wrong(eight.length() + 1, eight + PAIR, eight + ";pair", eight + ";pair 12", eight + ";pair x", eight + ";pair;");
        StringBuilder text = new StringBuilder("cell 1 1");
        for (int i = 0; i < 8; i++) {
            text.append(PAIR.replace("pair 1", "pair " + i));
        }
        FingerRows x = Check.told(text.toString());
        for (int i = 0; i < 8; i++) {
            Check.due("GATE of " + i, i, x.pair(i, 0));
        }
    }

    private static void wides() {
        Check.says("GATE, UP of two NETS, LOW of two NETS, WIDE 1 to 40");
        bounds("cell 9 1" + PAIR + " wide #", 1, 40);
        for (int wide = 1; wide <= 40; wide++) {
            Check.due("WIDE " + wide, wide, Check.told("cell 9 1" + PAIR + " wide " + wide).pair(0, 5));
        }
        Check.says("(GATE; WIDE 1 without)");
        Check.due("WIDE without", 1, Check.told("cell 1 1" + PAIR).pair(0, 5));
        FingerRows x = Check.told("cell 2 1" + PAIR + " wide 7" + PAIR);
        Check.due("not that of the one before", 1, x.pair(1, 5));
        x = Check.told("cell 9 1" + PAIR + " wide 7");
        Check.feed(x, "cell 9 1" + PAIR);
        x.cell();
        Check.due("not that of the text before", 1, x.pair(0, 5));
    }

    private static void blocks() {
        Check.says("BLOCKS (at most 6): a TRACK 0 to 11, from a column to another one, 0 to 40");
        String six = "cell 1 1" + BLOCK.repeat(6);
        Check.due("no BLOCK", 0, Check.told("cell 1 1").count(4));
        Check.due("6 BLOCKS", 6, Check.told(six).count(4));
        wrong(six.length() + 1, six + BLOCK, six + ";block", six + ";block 12 0 0", six + ";block 0 5 4");
        bounds("cell 1 1;block # 0 40", 0, 11);
        // a wire of net 1 over columns 0 to 2
        for (int track = 0; track < 12; track++) {
            FingerRows x = Check.told("cell 1 1;pair 0 up 1 1 low 2 3;block " + track + " 0 40");
            Check.due("what TRACK " + track + " blocks", 4095 - (1 << track), x.room(1));
        }
    }

    private static void fingers() {
        Check.says("FINGERS (at most 8, numbered from 0 on): of each PAIR, by numbers, WIDE by UNIT, rounded up");
        for (int unit = 1; unit <= 9; unit++) {
            for (int wide = 1; wide <= 40; wide++) {
                int fingers = wide % unit == 0 ? wide / unit : wide / unit + 1;
                String text = "cell " + unit + " 1" + PAIR + " wide " + wide;
                FingerRows x = new FingerRows();
                Check.due(text, fingers <= 8 ? RIGHT : 9, Check.faultOf(x, text));
                Check.due("fingers of " + text, fingers <= 8 ? fingers : 0, x.count(1));
            }
        }
        FingerRows x = Check.told("cell 3 1" + PAIR + " wide 7" + PAIR + " wide 3" + PAIR + " wide 10");
        int[] sets = {7, 8, 16 + 32 + 64 + 128};
        for (int pair = 0; pair < 3; pair++) {
            Check.due("FINGERS of " + pair, sets[pair], x.pair(pair, 6));
        }
        int[] pairs = {0, 0, 0, 1, 2, 2, 2, 2};
        for (int place = 0; place < 8; place++) {
            Check.due("PAIR of " + place, pairs[place], x.at(place, 1));
        }

        Check.says("a PAIR by whose FINGERS there would be more than 8, its first word");
        String seven = "cell 1 1" + PAIR + " wide 7";
        String eight = "cell 1 1" + PAIR + " wide 8";
        right(eight, seven + PAIR, seven + PAIR + " wide 1");
        wrong(seven.length() + 1, seven + PAIR + " wide 2", seven + PAIR + " wide 40", seven + PAIR + " wide 2;foo");
        wrong(seven.length() + 4, seven + ";   pair 1 up 1 2 low 3 4 wide 2");
        wrong(eight.length() + 1, eight + PAIR, eight + PAIR + PAIR, eight + PAIR + " wide 1", eight + PAIR + " 1");
        wrong(9, "cell 1 1" + PAIR + " wide 9", "cell 1 1" + PAIR + " wide 40", "cell 4 1" + PAIR + " wide 33");
        right("cell 4 1" + PAIR + " wide 32", "cell 5 1" + PAIR + " wide 40", "cell 5 1" + PAIR + " wide 36");
        wrong((seven + PAIR).length() + 6, seven + PAIR + " wide 0", seven + PAIR + " wide 41");
        right(eight + BLOCK + ";rail 1;pin 1");
    }

    private static void lines() {
        Check.says("LINE (at most 20)");
        right("cell 1 1", TWENTY, TWENTY + "   ");
        int behind = TWENTY.length();
        wrong(behind + 1, TWENTY + ";rail 1", TWENTY + ";pin 5", TWENTY + PAIR, TWENTY + BLOCK, TWENTY + ";foo",
            TWENTY + ";rail 0", TWENTY + ";rail", TWENTY + ";", TWENTY + ";;", TWENTY + ";7");
        wrong(behind + 4, TWENTY + " ;  rail 1");
        wrong(behind, TWENTY + "rail 1");
        String nineteen = TWENTY.substring(0, behind - ";rail 0".length());
        right(nineteen, nineteen + ";pin 5");
        wrong(nineteen.length() + 7, nineteen + ";pin 5;rail 1");
    }

    private static void numbers() {
        Check.says("Numbers are of 1 to 2 digits");
        right("cell 01 04", "cell 9 1;rail 00;rail 01;rail 10", "cell 1 1;block 00 00 00", "cell 1 1;block 0 9 10");
        Check.due("09 is 9", 9, Check.told("cell 09 1").count(5));
        Check.due("10 is ten", 1 << 10, Check.told("cell 1 1;rail 10").count(2));
        wrong(5, "cell 001 1", "cell 100 1", "cell 0000000001 1", "cell 4294967297 1", "cell +1 1", "cell ,1 1");
        wrong(7, "cell 1 001", "cell 1 004;rail", "cell 1 -1");
        wrong(14, "cell 1 1;rail 000", "cell 1 1;rail 011", "cell 1 1;rail 110");
        wrong(36, "cell 9 1;pair 1 up 1 2 low 3 4 wide 001", "cell 9 1;pair 1 up 1 2 low 3 4 wide 400");
        wrong(6, "cell 1.1", "cell 1;1", "cell 1a1");
        wrong(5, "cell 11", "cell /1 1", "cell :1 1");
        wrong(6, "cell 1/ 1", "cell 1: 1");
    }

    private static void words() {
        Check.says("words as long as a to z go on");
        right("cell1 1;rail1;pin1;block1 1 1;pair1up1 1low1 1wide1");
        wrong(0, "cellx 1 1", "cella 1 1", "cellz 1 1", "cel 1 1", "c", "celll", "ell 1 1", "acell 1 1", "cellcell 1 1");
        wrong(0, "xell 1 1", "cexl 1 1", "celx 1 1");
        wrong(9, "cell 1 1;xail 1", "cell 1 1;raix 1", "cell 1 1;xin 1", "cell 1 1;pix 1", "cell 1 1;xlock 1 1 1",
            "cell 1 1;blocx 1 1 1", "cell 1 1;xair 1 up 1 2 low 3 4", "cell 1 1;paix 1 up 1 2 low 3 4");
        wrong(16, "cell 1 1;pair 1 xp 1 2 low 3 4", "cell 1 1;pair 1 ux 1 2 low 3 4");
        wrong(23, "cell 1 1;pair 1 up 1 2 xow 3 4", "cell 1 1;pair 1 up 1 2 lox 3 4");
        wrong(31, "cell 1 1;pair 1 up 1 2 low 3 4 xide 1", "cell 1 1;pair 1 up 1 2 low 3 4 widx 1");
        wrong(4, "cellX 1 1", "cell{ 1 1", "cell` 1 1", "cell@ 1 1", "cell; 1 1");
        wrong(0, "Cell 1 1", "CELL 1 1", "`cell 1 1", "{cell 1 1");
        wrong(9, "cell 1 1;rails 1", "cell 1 1;rai 1", "cell 1 1;railpin 1", "cell 1 1;pins 1", "cell 1 1;pi 1",
            "cell 1 1;blocks 1 1 1", "cell 1 1;bloc 1 1 1", "cell 1 1;pairs 1", "cell 1 1;pai 1", "cell 1 1;Pair 1",
            "cell 1 1;wide 1", "cell 1 1;low 1 1", "cell 1 1;cell 1 1", "cell 1 1;zzzz 1");
        wrong(13, "cell 1 1;rail{1", "cell 1 1;rail`1", "cell 1 1;railR1");
        wrong(16, "cell 1 1;pair 1 u 1 2 low 3 4", "cell 1 1;pair 1 ups 1 2 low 3 4", "cell 1 1;pair 1 uplow 1 2");
        wrong(16, "cell 1 1;pair 1 low 1 2 low 3 4", "cell 1 1;pair 1 Up 1 2 low 3 4");
        wrong(23, "cell 1 1;pair 1 up 1 2 lo 3 4", "cell 1 1;pair 1 up 1 2 lows 3 4", "cell 1 1;pair 1 up 1 2 up 3 4");
        wrong(31, "cell 1 1;pair 1 up 1 2 low 3 4 wid 1", "cell 1 1;pair 1 up 1 2 low 3 4 wides 1",
            "cell 1 1;pair 1 up 1 2 low 3 4 rail 1", "cell 1 1;pair 1 up 1 2 low 3 4 widerail 1");
    }

    private static void blanks() {
        Check.says("between all there may be blanks (32), also ahead and behind");
        right("   cell   1   4   ", "cell 1 1;rail 1  ", " cell 1 1 ; pair 1 up 1 2 low 3 4 wide 1 ; pin 1 ; rail 1 ",
            "cell1 1;block 1  1  1", "  cell 1 1;block 1 1 1  ;  pin 1");
        wrong(2, "  x");
        wrong(0, "ce ll 1 1", "c ell 1 1");
        wrong(9, "cell 1 1;ra il 1");
        wrong(16, "cell 1 1;rail 1 0");
        for (int sign = 0; sign < 256; sign++) {
            char c = (char) sign;
            boolean letter = c >= 'a' && c <= 'z';
            boolean digit = c >= '0' && c <= '9';
            int blank = sign == 32 ? RIGHT : -1;
            oneSign("ahead", c, blank, 0, c + "cell 1 1");
            oneSign("behind a word", c, c == '0' ? RIGHT : blank, letter ? 0 : 4, "cell" + c + "1 1");
            oneSign("behind a number", c, blank, digit ? 5 : 6, "cell 1" + c + "1");
            oneSign("behind all", c, blank, c == ';' ? 9 : digit ? 7 : 8, "cell 1 1" + c);
            oneSign("behind ;", c, blank, 9, "cell 1 1;" + c + "rail 1");
            oneSign("ahead of ;", c, blank, digit ? 7 : c == ';' ? 9 : 8, "cell 1 1" + c + ";rail 1");
        }
    }

    private static void oneSign(String where, char c, int right, int spot, String text) {
        Check.due(where + " the sign " + (int) c, right == RIGHT ? RIGHT : spot, faultOf(text));
    }

    private static void firstWrongByte() {
        Check.says("The first wrong byte: the begin of the first thing that cannot stand there");
        wrong(5, "cell 0 0", "cell 0 1;foo", "cell 0", "cell rail 1", "cell ;", "cell ;1 1");
        wrong(7, "cell 1 0;foo", "cell 1 5;rail 12", "cell 1 ;", "cell 1 rail");
        wrong(14, "cell 1 1;rail 12;rail 12", "cell 1 1;rail 99 99", "cell 1 1;rail ;rail 1", "cell 1 1;rail rail");
        wrong(9, "cell 1 1;;rail 1", "cell 1 1;1 rail", "cell 1 1;foo;bar");
        wrong(16, "cell 1 1;rail 1 ,rail 2");
        Check.says("(a number of more digits, or out of its bounds; a NET that is one already; a last column "
            + "that is less;");
        wrong(15, "cell 1 1;rail  111", "cell 1 1;rail  12");
        wrong(20, "cell 1 1;block 0 40 39", "cell 1 1;block 0 10 09", "cell 1 1;block 0 40 041");
        wrong(22, "cell 1 1;rail 1;rail  1");
        Check.says("a word that is none; of a LINE, a PAIR, a BLOCK, a PIN too many, the first word;");
        String pins = "cell 1 1;pin 0;pin 1;pin 2;pin 3;pin 4;pin 5";
        wrong(pins.length() + 3, pins + ";  pin 6", pins + " ; pin 0");
        String blocks = "cell 1 1" + BLOCK.repeat(6);
        wrong(blocks.length() + 3, blocks + ";  block 0 0 0", blocks + " ; block 0 1 0");
        String pairs = "cell 1 1" + PAIR.repeat(8);
        wrong(pairs.length() + 3, pairs + ";  pair 1 up 1 2 low 3 4", pairs + " ; pair 1 up");
        wrong(pairs.length() + 2, pairs + "; foo");
    }

    private static void moreMustCome() {
        Check.says("or the text's length, if more must come");
        String text = " cell 9 4 ; pair 1 up 2 3 low 4 5 wide 6 ; pin 7 ; block 8 9 10 ; rail 11 ";
        // a prefix is right at its own end, or wrong at the last word begun, or more must come
        for (int length = 0; length <= text.length(); length++) {
            String prefix = text.substring(0, length);
            Check.due("of [" + prefix + "]", faultOfPrefix(text, length), faultOf(prefix));
        }
        wrong(0, "");
        wrong(1, " ");
        wrong(400, " ".repeat(400));
        wrong(400, "cell 1 1" + " ".repeat(391) + ";");
        right("cell 1 1" + " ".repeat(392), " ".repeat(392) + "cell 1 1");
        wrong(399, " ".repeat(399) + "c");
    }

    /** By hand: what the prefixes of the text are that are whole, and where the words of it begin and end. */
    private static int faultOfPrefix(String text, int length) {
        String prefix = text.substring(0, length);
        String[] whole = {" cell 9 4", " cell 9 4 ; pair 1 up 2 3 low 4 5", " cell 9 4 ; pair 1 up 2 3 low 4 5 wide 6",
            " cell 9 4 ; pair 1 up 2 3 low 4 5 wide 6 ; pin 7",
            " cell 9 4 ; pair 1 up 2 3 low 4 5 wide 6 ; pin 7 ; block 8 9 10",
            " cell 9 4 ; pair 1 up 2 3 low 4 5 wide 6 ; pin 7 ; block 8 9 10 ; rail 1",
            " cell 9 4 ; pair 1 up 2 3 low 4 5 wide 6 ; pin 7 ; block 8 9 10 ; rail 11"};
        for (String one : whole) {
            if (prefix.equals(one) || prefix.equals(one + " ")) {
                return RIGHT;
            }
        }
        // the last column was less, as long as its second digit was not there
        if (prefix.endsWith("block 8 9 1")) {
            return length - 1;
        }
        int begin = length;
        while (begin > 0 && prefix.charAt(begin - 1) >= 'a' && prefix.charAt(begin - 1) <= 'z') {
            begin--;
        }
        boolean partOfWord = begin < length && length < text.length() && Character.isLetter(text.charAt(length));
        return partOfWord ? begin : length;
    }

    private static void nothingStays() {
        Check.says("Of a wrong text nothing stays.");
        String[] wrong = {"cell 3 2;pair 7 up 8 9 low 10 11;rail 5;pin 6;block 1 2 3;foo", "cell 3 2;pair 7 up 8 9 low 10",
            "cell 4", "", "cell 3 2;rail 5;rail 5", "cell 3 2;pair 7 up 8 9 low 10 11 wide 40"};
        for (String text : wrong) {
            FingerRows none = new FingerRows();
            State before = new State(none);
            Check.faultOf(none, text);
            before.stays(none, "no CELL and " + text);
            FingerRows some = Check.told("cell 2 3;pair 1 up 2 3 low 4 5 wide 3;rail 2;pin 3;block 0 1 2");
            some.turn(1, 3);
            before = new State(some);
            Check.faultOf(some, text);
            before.stays(some, "a CELL and " + text);
            Check.feed(some, "cell 1 1");
            Check.due("the next text is read as if none had been", 0, some.cell());
            Check.due("no RAIL of it", 0, some.count(2));
            Check.due("no PIN of it", 0, some.count(3));
            Check.due("no BLOCK of it", 0, some.count(4));
            Check.due("no PAIR of it", 0, some.count(0));
        }
    }

    private static void inPlaceOfTheOneBefore() {
        Check.says("It is told by a text, in place of the one before");
        FingerRows x = Check.told("cell 3 4;pair 7 up 8 9 low 10 11 wide 9;rail 5;pin 6;block 1 2 3");
        x.mirror();
        Check.feed(x, "cell 1 2;pair 1 up 2 2 low 4 5");
        Check.due("FINGERS", 1, x.cell());
        int[] counts = {1, 1, 0, 0, 0, 1, 2, 0};
        for (int what = 0; what < 8; what++) {
            Check.due("count " + what, counts[what], x.count(what));
        }
        int[] parts = {1, 2, 2, 4, 5, 1, 1};
        for (int what = 0; what < 7; what++) {
            Check.due("pair " + what, parts[what], x.pair(0, what));
        }
        Check.due("no BLOCK of the one before", 4095, x.room(2));
        Check.says("THE LAYOUT is all FINGERS by numbers, with TURN 0.");
        Check.feed(x, "cell 1 1" + PAIR.repeat(8));
        x.cell();
        for (int place = 0; place < 8; place++) {
            Check.due("FINGER of " + place, place, x.at(place, 0));
            Check.due("TURN of " + place, 0, x.at(place, 2));
        }
    }

    private static void feed() {
        Check.says("Twenty bytes come behind the TAPE, of each number the highest first: how many it has");
        FingerRows x = new FingerRows();
        Check.due("20", 20, x.feed(0x63656c6c, 0x20312034, 0x3b706169, 0x72203031, 0x75703032));
        Check.due("40", 40, x.feed(0x2030336c, 0x6f773034, 0x20303577, 0x69646530, 0x363b7069));
        Check.due("60", 60, x.feed(0x6e30373b, 0x7261696c, 0x30382020, 0x20202020, 0x20202020));
        // cell 1 4;pair 01up02 03low04 05wide06;pin07;rail08: of UNIT 1, WIDE 6
        Check.due("FINGERS", 6, x.cell());
        int[] parts = {1, 2, 3, 4, 5, 6, 63};
        for (int what = 0; what < 7; what++) {
            Check.due("pair " + what, parts[what], x.pair(0, what));
        }
        Check.due("PIN", 1 << 7, x.count(3));
        Check.due("RAIL", 1 << 8, x.count(2));
        // bytes of 128 and more are bytes as well
        x.feed(0x63656c6c, 0x20312031, 0x20202020, 0x20ff2020, 0x20202020);
        Check.due("255", 13, Check.faultOfTape(x));
        x.feed(-1, -1, -1, -1, -1);
        Check.due("all 255", 0, Check.faultOfTape(x));
        x.feed(Integer.MIN_VALUE, 0, 0, 0, 0);
        Check.due("128", 0, Check.faultOfTape(x));
        x.feed(0x63656c6c, 0x20312031, 0x20202020, 0x20202020, 0x20202080);
        Check.due("the last one 128", 19, Check.faultOfTape(x));
        x.feed(0x63656c6c, 0x20312031, 0x3b726169, 0x6c203320, 0x202020a0);
        Check.due("160 is no blank", 19, Check.faultOfTape(x));
    }

    private static void feedFull() {
        Check.says("NONE, and none come, if it would have more than 400.");
        FingerRows x = new FingerRows();
        int blanks = 0x20202020;
        x.feed(0x63656c6c, 0x20312032, blanks, blanks, blanks);
        for (int i = 2; i <= 20; i++) {
            Check.due("feed " + i, 20 * i, x.feed(blanks, blanks, blanks, blanks, blanks));
        }
        Check.due("one more than full", -1, x.feed(0, 0, 0, 0, 0));
        Check.due("again", -1, x.feed(0x63656c6c, 0, 0, 0, 0));
        Check.due("it has 400", true, x.end(400));
        Check.due("not 401", false, x.end(401));
        Check.due("none came", 0, x.cell());
        for (int length = 361; length <= 400; length++) {
            for (int i = 0; i < 20; i++) {
                x.feed(blanks, blanks, blanks, blanks, blanks);
            }
            x.end(length);
            int want = length <= 380 ? length + 20 : -1;
            Check.due("behind " + length, want, x.feed(0, 0, 0, 0, 0));
            // of blanks alone the first wrong byte is behind these
            Check.due("what came behind " + length, length, Check.faultOfTape(x));
        }
    }

    private static void end() {
        Check.says("The TAPE has its first n bytes alone: true; false, and nothing happens, if it has fewer, "
            + "or n is below 0.");
        FingerRows x = new FingerRows();
        Check.due("none of none", true, x.end(0));
        Check.due("one of none", false, x.end(1));
        int[] never = {-1, Integer.MIN_VALUE, 21, 400, 401, Integer.MAX_VALUE, 1 << 31 | 8, 1 << 16, 256 + 8};
        x.feed(0x63656c6c, 0x20312031, 0x3b726169, 0x6c203320, 0x20202078);
        for (int n : never) {
            Check.due("end " + n, false, x.end(n));
        }
        Check.due("all", true, x.end(20));
        Check.due("it has 20 still", 40, x.feed(0, 0, 0, 0, 0));
        Check.due("one less", true, x.end(19));
        Check.due("20 no more", false, x.end(20));
        Check.due("what was cut off is gone", 0, x.cell());
        Check.due("its RAIL", 8, x.count(2));
        x.feed(0x63656c6c, 0x20312031, 0, 0, 0);
        Check.due("8", true, x.end(8));
        Check.due("behind these", 28, x.feed(0x3b726169, 0x6c203420, 0x20202020, 0x20202020, 0x20202020));
        Check.due("joined", 0, x.cell());
        Check.due("RAIL 4", 16, x.count(2));
        x.feed(0x63656c6c, 0x20312031, 0, 0, 0);
        Check.due("none", true, x.end(0));
        Check.due("from the begin again", 20, x.feed(0x63656c6c, 0x20322031, 0x20202020, 0x20202020, 0x20202020));
        Check.due("as if none had been", 0, x.cell());
        Check.due("UNIT 2", 2, x.count(5));
    }

    private static void cell() {
        Check.says("Uses the TAPE up: THE CELL is told: how many FINGERS. IllegalArgumentException: the text "
            + "is wrong.");
        FingerRows x = new FingerRows();
        Check.dueThrow("an empty TAPE", NO_ARGUMENT, () -> x.cell());
        Check.feed(x, "cell 1 1" + PAIR);
        Check.due("one FINGER", 1, x.cell());
        Check.due("used up", false, x.end(1));
        Check.dueThrow("and so empty", NO_ARGUMENT, () -> x.cell());
        Check.due("the CELL stays", 1, x.count(1));
        Check.feed(x, "cell 1 1" + PAIR.repeat(9));
        Check.dueThrow("one more than full", NO_ARGUMENT, () -> x.cell());
        Check.due("used up, though wrong", false, x.end(1));
        Check.due("20, not more", 20, x.feed(0, 0, 0, 0, 0));
        x.end(0);
        Check.feed(x, "cell 1 1" + PAIR.repeat(8));
        Check.due("full", 8, x.cell());
        Check.feed(x, "cell 1 1");
        Check.due("empty", 0, x.cell());
    }

    private static void fault() {
        Check.says("The first wrong byte of the latest text that was read; NONE without one, and ahead of any.");
        FingerRows x = new FingerRows();
        Check.due("ahead of any", -1, x.fault());
        Check.feed(x, "cell 0 1");
        Check.due("not read yet", -1, x.fault());
        Check.due("read", 5, Check.faultOfTape(x));
        Check.feed(x, "cell 1 1");
        Check.due("the latest that was read", 5, x.fault());
        x.image();
        x.cell();
        Check.due("without one", -1, x.fault());
        Check.due("another", 7, Check.faultOf(x, "cell 1 9"));
        x.back();
        Check.due("going back", 7, x.fault());
        x.lay(0);
        x.undo();
        Check.due("other calls", 7, x.fault());
        Check.due("an empty text", 0, Check.faultOf(x, ""));
        Check.due("the last byte", 399, Check.faultOf(x, "cell 1 1" + " ".repeat(391) + "x"));
        Check.due("the length of a full one", 400, Check.faultOf(x, "cell 1" + " ".repeat(394)));
    }

    private static void pairAndCount() {
        Check.says("0 GATE, 1, 2 the NETS of UP, 3, 4 those of LOW, 5 WIDE, 6 its FINGERS, as bits.");
        FingerRows x = Check.told("cell 5 1;pair 11 up 10 9 low 8 7 wide 40");
        int[] parts = {11, 10, 9, 8, 7, 40, 255};
        for (int what = 0; what < 7; what++) {
            Check.due("pair 0 " + what, parts[what], x.pair(0, what));
        }
        Check.says("0 PAIRS, 1 FINGERS, 2 RAILS, as bits, 3 PINS, as bits, 4 BLOCKS, 5 UNIT, 6 PITCH, 7 what "
            + "is remembered. NONE for another what.");
        int[] counts = {1, 8, 0, 0, 0, 5, 1, 0};
        for (int what = 0; what < 8; what++) {
            Check.due("count " + what, counts[what], x.count(what));
        }
        for (int what : new int[] {-1, 8, 9, 256, Integer.MIN_VALUE, Integer.MAX_VALUE}) {
            Check.due("count " + what, -1, x.count(what));
            Check.due("count without a CELL " + what, -1, new FingerRows().count(what));
        }
        for (int what = 0; what < 8; what++) {
            Check.due("count without a CELL " + what, 0, new FingerRows().count(what));
        }
    }

    private static void manyCalls() {
        Check.says("An object is used for at most 512 calls after it has been made");
        FingerRows x = new FingerRows();
        int blanks = 0x20202020;
        for (int i = 0; i < 170; i++) {
            int unit = 1 + i % 9;
            x.feed(0x63656c6c, 0x20302031 + (unit << 16), blanks, blanks, blanks);
            Check.due("cell " + i, 0, x.cell());
            Check.due("unit " + i, unit, x.count(5));
        }
        Check.due("call 511", 1, x.many());
        Check.due("call 512", -1, x.fault());
    }
}
