/** The edges of THE IMAGE: promises 34 and 35, and that a text, a change, an image and going back do not mix. */
public final class ImageEdgesTest {
    private static final String[] TEXTS = {"cell 1 1;pair 0 up 1 2 low 3 4;pair 5 up 2 6 low 4 7;rail 1;pin 2;block 0 0 3",
        "cell 2 3;pair 8 up 1 1 low 3 3 wide 5;pin 8", "cell 3 2"};
    private static final int KINDS = 7;
    private static final int STEPS = 5;

    // what is due: the text that was told (-1 none), the changes since, of now and of THE IMAGE
    private static int text;
    private static int changes;
    private static int remembered;
    private static boolean kept;
    private static int keptText;
    private static int keptChanges;

    public static void main(String[] args) {
        none();
        oneImage();
        tapeAndFault();
        allRuns();
        Check.close();
    }

    private static void tell(FingerRows x, String words) {
        Check.feed(x, words);
        x.cell();
    }

    private static void none() {
        Check.says("One goes back to THE IMAGE: true; false, and nothing happens, if none was kept.");
        FingerRows x = new FingerRows();
        State before = new State(x);
        Check.due("none was kept", false, x.back());
        before.stays(x, "going back nowhere");
        tell(x, TEXTS[0]);
        x.mirror();
        before = new State(x);
        Check.due("none was kept", false, x.back());
        before.stays(x, "going back nowhere");
        Check.due("what is remembered stays", 1, x.count(7));
        Check.due("and can be taken back", 0, x.undo());
        Check.faultOf(x, "cell");
        Check.due("nor by a wrong text", false, x.back());
    }

    private static void oneImage() {
        Check.says("THE IMAGE (one) of all may be kept");
        FingerRows x = new FingerRows();
        x.image();
        State empty = new State(x);
        tell(x, TEXTS[0]);
        Check.due("of no CELL", true, x.back());
        empty.stays(x, "going back to no CELL");
        tell(x, TEXTS[0]);
        x.turn(0, 2);
        x.image();
        x.turn(1, 1);
        State later = new State(x);
        x.image();
        later.stays(x, "keeping");
        tell(x, TEXTS[1]);
        tell(x, TEXTS[2]);
        tell(x, TEXTS[1]);
        Check.due("the latest one", true, x.back());
        Check.due("its TURN", 1, x.at(1, 2));
        Check.due("none remembered", 0, x.count(7));
        Check.due("it is kept still", true, x.back());
        Check.due("its TURN", 1, x.at(1, 2));
        x.move(0, 1);
        Check.due("it is not what was changed", true, x.back());
        Check.due("its FINGER", 0, x.at(0, 0));
    }

    private static void tapeAndFault() {
        Check.says("(but for the TAPE, fault() and THE IMAGE itself)");
        FingerRows x = new FingerRows();
        Check.feed(x, "cell 1 1;rail 1");
        x.image();
        x.feed(0x3b706169, 0x72203120, 0x75702031, 0x2032206c, 0x6f772033);
        Check.due("back", true, x.back());
        Check.due("the TAPE stays", true, x.end(35));
        Check.due("the TAPE stays", false, x.end(36));
        // cell 1 1;rail 1;pair 1 up 1 2 low 3: one number must come
        Check.due("what is on it", 35, Check.faultOfTape(x));
        Check.due("back", true, x.back());
        Check.due("fault() stays", 35, x.fault());
        Check.due("the TAPE is empty still", false, x.end(1));
        tell(x, TEXTS[0]);
        x.image();
        Check.faultOf(x, "cel");
        x.back();
        Check.due("fault() of a wrong text behind THE IMAGE", 0, x.fault());
        tell(x, TEXTS[1]);
        x.back();
        Check.due("fault() of a right text behind THE IMAGE", -1, x.fault());
    }

    /** Every run of a few steps, each against what is due. */
    private static void allRuns() {
        Check.says("THE IMAGE is kept.");
        int runs = 1;
        for (int i = 0; i < STEPS; i++) {
            runs *= KINDS;
        }
        for (int run = 0; run < runs; run++) {
            FingerRows x = new FingerRows();
            text = -1;
            changes = 0;
            remembered = 0;
            kept = false;
            int rest = run;
            StringBuilder name = new StringBuilder("run ");
            for (int step = 0; step < STEPS; step++) {
                name.append(rest % KINDS);
                step(x, name.toString(), rest % KINDS);
                compare(x, name.toString());
                rest /= KINDS;
            }
        }
    }

    private static void step(FingerRows x, String name, int kind) {
        switch (kind) {
            case 0, 1, 2 -> {
                tell(x, TEXTS[kind]);
                text = kind;
                changes = 0;
                remembered = 0;
            }
            case 3 -> Check.faultOf(x, "cell 1 1;pair 9 up 9 9 low 9 9;rail 9;pin 9;block 9 9 9;x");
            case 4 -> {
                x.image();
                kept = true;
                keptText = text;
                keptChanges = changes;
            }
            case 5 -> {
                Check.due(name + " back", kept, x.back());
                text = kept ? keptText : text;
                changes = kept ? keptChanges : changes;
                remembered = kept ? 0 : remembered;
            }
            default -> {
                if (text == 0 || text == 1) {
                    x.turn(0, (changes + 1) % 4);
                    changes++;
                    remembered++;
                }
            }
        }
    }

    private static void compare(FingerRows x, String name) {
        int[] fingers = {0, 2, 3, 0};
        int[] units = {0, 1, 2, 3};
        int[] gates = {-1, 0, 8, -1};
        int[] rails = {0, 2, 0, 0};
        int[] pins = {0, 4, 256, 0};
        int[] blocks = {0, 1, 0, 0};
        long[] many = {1, 2, 6 * 64, 1};
        Check.due(name + " FINGERS", fingers[text + 1], x.count(1));
        Check.due(name + " UNIT", units[text + 1], x.count(5));
        Check.due(name + " RAILS", rails[text + 1], x.count(2));
        Check.due(name + " PINS", pins[text + 1], x.count(3));
        Check.due(name + " BLOCKS", blocks[text + 1], x.count(4));
        Check.due(name + " MANY", many[text + 1], x.many());
        Check.due(name + " remembered", remembered, x.count(7));
        if (fingers[text + 1] > 0) {
            Check.due(name + " GATE", gates[text + 1], x.pair(0, 0));
            Check.due(name + " TURN", changes % 4, x.at(0, 2));
            Check.due(name + " its column", gates[text + 1], x.column(1, 2));
        }
    }
}
