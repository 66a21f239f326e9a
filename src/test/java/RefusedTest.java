import java.util.ArrayList;
import java.util.List;
import java.util.NoSuchElementException;

/**
 * Calls that are refused: which exception of several, and that nothing is changed then. Of two objects with the same
 * past one is asked what is refused; all that can be seen of both must be the same behind that, also what one does
 * not see at once: the TAPE, what is remembered, THE IMAGE.
 */
public final class RefusedTest {
    private static final Class<IndexOutOfBoundsException> NO_INDEX = IndexOutOfBoundsException.class;
    private static final Class<IllegalArgumentException> NO_ARGUMENT = IllegalArgumentException.class;
    private static final Class<IllegalStateException> NO_STATE = IllegalStateException.class;
    private static final Class<NoSuchElementException> NO_ELEMENT = NoSuchElementException.class;

    private static final String FULL = "cell 2 3;pair 5 up 1 4 low 0 6 wide 9;pair 7 up 4 8 low 6 9;pair 1 up 4 1 low 0 6"
        + ";pair 2 up 8 8 low 9 9;rail 1;pin 4;pin 7;pin 9;block 0 0 6;block 2 3 40";

    /** A past that an object is brought to. */
    private interface Past {
        void tell(FingerRows x);
    }

    public static void main(String[] args) {
        Past[] pasts = pasts();
        for (int i = 0; i < pasts.length; i++) {
            refuseAll("past " + i, pasts[i]);
            refuseTexts("past " + i, pasts[i]);
            nothingHappens("past " + i, pasts[i]);
            questions("past " + i, pasts[i]);
        }
        told();
        Check.close();
    }

    private static Past[] pasts() {
        return new Past[] {
            x -> { },
            x -> Check.feed(x, "cell 1 1;pair 1 up 2"),
            x -> tell(x, "cell 4 2"),
            x -> {
                tell(x, "cell 1 1;pair 0 up 1 2 low 3 4");
                x.turn(0, 2);
                x.image();
                x.turn(0, 1);
            },
            x -> {
                tell(x, FULL);
                x.image();
                for (int i = 0; i < 11; i++) {
                    x.move(i % 8, (i + 3) % 8);
                }
                x.mirror();
                x.lay(5);
                Check.faultOf(x, "cell 1 1;rail 12");
                Check.feed(x, "cell 9 4;pair 1 up 2 3 low 4 5 wide 40;rail 1;pin 1");
            },
            x -> {
                tell(x, FULL);
                x.lay(0);
                x.image();
                tell(x, "cell 1 1;pair 1 up 2 3 low 4 5");
                x.mirror();
            }};
    }

    private static void tell(FingerRows x, String text) {
        Check.feed(x, text);
        x.cell();
    }

    private static void refuseAll(String name, Past past) {
        Check.says("a call that throws changes nothing but the TAPE, where it is used up, and fault(), where "
            + "a text is read.");
        FingerRows x = new FingerRows();
        FingerRows twin = new FingerRows();
        past.tell(x);
        past.tell(twin);
        State before = new State(x);
        int fault = x.fault();
        int[] tried = {0};
        for (Refusal one : refusals(x)) {
            Check.dueThrow(name + " " + one.name, one.thrown, one.call);
            Check.due(name + " fault behind " + one.name, fault, x.fault());
            if (!before.isOf(x)) {
                before.stays(x, name + " " + one.name);
            }
            tried[0]++;
        }
        Check.due(name + " many are tried", true, tried[0] > 60);
        sameTape(name, x, twin);
        past.tell(x);
        past.tell(twin);
        for (Refusal one : refusals(x)) {
            Check.dueThrow(name + " " + one.name, one.thrown, one.call);
        }
        samePastAndImage(name, x, twin);
    }

    private record Refusal(String name, Class<? extends RuntimeException> thrown, Check.Call call) {
    }

    private static int[] outside(int size) {
        return new int[] {-1, size, Integer.MIN_VALUE, Integer.MAX_VALUE};
    }

    private static List<Refusal> refusals(FingerRows x) {
        List<Refusal> all = new ArrayList<>();
        int fingers = x.count(1);
        refuseIndices(all, x, fingers);
        for (int n : outside(fingers + 1)) {
            all.add(new Refusal("parted", NO_ARGUMENT, () -> x.parted(n, true)));
            all.add(new Refusal("ofSet", NO_ARGUMENT, () -> x.ofSet(n == -1 ? -1 : 1 << fingers)));
        }
        for (int n : outside(21)) {
            all.add(new Refusal("shortest", NO_ARGUMENT, () -> x.shortest(n, true)));
        }
        for (long k : new long[] {-1, x.many(), Long.MIN_VALUE, Long.MAX_VALUE, 1L << 32}) {
            all.add(new Refusal("lay", NO_ARGUMENT, () -> x.lay(k)));
            if (fingers > 0) {
                all.add(new Refusal("best", NO_ARGUMENT, () -> x.best(k, 0, true)));
            }
        }
        for (int what : outside(12)) {
            all.add(new Refusal("layout", NO_ELEMENT, () -> x.layout(what)));
            all.add(new Refusal("net what", NO_ELEMENT, () -> x.net(0, what)));
            all.add(new Refusal("better", NO_ELEMENT, () -> x.better(what)));
            all.add(new Refusal("fits track", NO_ARGUMENT, () -> x.fits(0, what)));
        }
        if (fingers > 0) {
            refuseOfFingers(all, x, fingers);
        } else {
            all.add(new Refusal("mirror", NO_STATE, () -> x.mirror()));
        }
        if (x.count(7) == 0) {
            all.add(new Refusal("undo", NO_STATE, () -> x.undo()));
        }
        return all;
    }

    private static void refuseIndices(List<Refusal> all, FingerRows x, int fingers) {
        for (int i : outside(fingers)) {
            all.add(new Refusal("at", NO_INDEX, () -> x.at(i, 0)));
            all.add(new Refusal("best place", NO_INDEX, () -> x.best(0, i, false)));
            all.add(new Refusal("with", NO_INDEX, () -> x.with(i, 0)));
            all.add(new Refusal("with last", NO_INDEX, () -> x.with(0, i)));
            all.add(new Refusal("neighbours", NO_INDEX, () -> x.neighbours(i, 0)));
            all.add(new Refusal("neighbours other", NO_INDEX, () -> x.neighbours(0, i)));
            all.add(new Refusal("starts", NO_INDEX, () -> x.starts(i)));
            all.add(new Refusal("turn", NO_INDEX, () -> x.turn(i, 1)));
            all.add(new Refusal("move", NO_INDEX, () -> x.move(i, 0)));
            all.add(new Refusal("move to", NO_INDEX, () -> x.move(0, i)));
        }
        for (int i : outside(x.count(0))) {
            all.add(new Refusal("pair", NO_INDEX, () -> x.pair(i, 0)));
        }
        for (int i : outside(x.layout(2))) {
            all.add(new Refusal("column", NO_INDEX, () -> x.column(i, 0)));
        }
        for (int i : outside(12)) {
            all.add(new Refusal("net", NO_INDEX, () -> x.net(i, 0)));
            all.add(new Refusal("fits", NO_INDEX, () -> x.fits(i, 0)));
            all.add(new Refusal("room", NO_INDEX, () -> x.room(i)));
        }
    }

    private static void refuseOfFingers(List<Refusal> all, FingerRows x, int fingers) {
        for (int i = 0; i < fingers; i++) {
            final int both = i;
            all.add(new Refusal("neighbours, both are one", NO_ARGUMENT, () -> x.neighbours(both, both)));
            all.add(new Refusal("move, both are one", NO_ARGUMENT, () -> x.move(both, both)));
            for (int turn : outside(4)) {
                all.add(new Refusal("turn, no TURN", NO_ARGUMENT, () -> x.turn(both, turn)));
            }
        }
        for (int what : outside(7)) {
            all.add(new Refusal("pair what", NO_ELEMENT, () -> x.pair(0, what)));
            all.add(new Refusal("at what", NO_ELEMENT, () -> x.at(0, what)));
            all.add(new Refusal("column what", NO_ELEMENT, () -> x.column(0, what)));
        }
    }

    /** A wrong text changes the TAPE and fault() alone. */
    private static void refuseTexts(String name, Past past) {
        Check.says("a call that throws changes nothing but the TAPE, where it is used up, and fault(), where "
            + "a text is read.");
        String[] wrong = {"", "cell", "cell 1 1;pair 1 up 2 3 low 4 5 wide 40", "cell 9 4;pair 3 up 2 3 low 4 5;rail 3;pin 3;"};
        int[] faults = {0, 4, 9, 44};
        FingerRows x = new FingerRows();
        FingerRows twin = new FingerRows();
        past.tell(x);
        past.tell(twin);
        State before = new State(x);
        for (int i = 0; i < wrong.length; i++) {
            x.end(0);
            Check.due(name + " fault of " + wrong[i], faults[i], Check.faultOf(x, wrong[i]));
            before.stays(x, name + " " + wrong[i]);
            Check.due(name + " TAPE", false, x.end(1));
        }
        samePastAndImage(name, x, twin);
    }

    /** Calls that answer NONE or false, and do nothing. */
    private static void nothingHappens(String name, Past past) {
        Check.says("false, and nothing happens, if it has fewer, or n is below 0.");
        FingerRows x = new FingerRows();
        FingerRows twin = new FingerRows();
        past.tell(x);
        past.tell(twin);
        State before = new State(x);
        int fault = x.fault();
        for (int n : new int[] {-1, 401, Integer.MIN_VALUE, Integer.MAX_VALUE}) {
            Check.due(name + " end " + n, false, x.end(n));
            Check.due(name + " count " + n, -1, x.count(n < 0 ? n : 8));
        }
        before.stays(x, name + " what does nothing");
        Check.due(name + " fault", fault, x.fault());
        sameTape(name, x, twin);
        samePastAndImage(name, x, twin);

        Check.says("NONE, and none come, if it would have more than 400.");
        while (x.feed(0x20202020, 0x20202020, 0x20202020, 0x20202020, 0x20202020) >= 0) {
            twin.feed(0x20202020, 0x20202020, 0x20202020, 0x20202020, 0x20202020);
        }
        before = new State(x);
        Check.due(name + " feed", -1, x.feed(1, 2, 3, 4, 5));
        before.stays(x, name + " a feed that is refused");
        sameTape(name, x, twin);
    }

    /** What is asked changes nothing: an object that was asked all is as one that was asked nothing. */
    private static void questions(String name, Past past) {
        Check.says("THE IMAGE (one) of all may be kept, and gone back to (but for the TAPE, fault() and THE "
            + "IMAGE itself).");
        FingerRows x = new FingerRows();
        FingerRows twin = new FingerRows();
        past.tell(x);
        past.tell(twin);
        State first = new State(x);
        first.stays(x, name + " all questions");
        first.stays(twin, name + " none");
        sameTape(name, x, twin);
        samePastAndImage(name, x, twin);
    }

    /** Destroys what is on the TAPE; ends with what is read of it. */
    private static void sameTape(String name, FingerRows x, FingerRows twin) {
        int length = lengthOfTape(x);
        Check.due(name + " length of the TAPE", lengthOfTape(twin), length);
        FingerRows[] both = {x, twin};
        int[] faults = new int[2];
        for (int i = 0; i < 2; i++) {
            faults[i] = Check.faultOfTape(both[i]);
        }
        Check.due(name + " what is on the TAPE", faults[1], faults[0]);
        Check.due(name + " FINGERS then", twin.count(1), x.count(1));
        Check.due(name + " all then", true, new State(twin).isOf(x));
    }

    /** Cuts the TAPE down to what it has: nothing happens. */
    private static int lengthOfTape(FingerRows x) {
        for (int n = 400; n > 0; n--) {
            if (x.end(n)) {
                return n;
            }
        }
        return 0;
    }

    private static void samePastAndImage(String name, FingerRows x, FingerRows twin) {
        Check.due(name + " remembered", twin.count(7), x.count(7));
        for (int left = twin.count(7); left > 0; left--) {
            Check.due(name + " undo", twin.undo(), x.undo());
            Check.due(name + " all as ahead of it", true, new State(twin).isOf(x));
        }
        Check.dueThrow(name + " none is remembered", NO_STATE, () -> x.undo());
        Check.due(name + " back", twin.back(), x.back());
        Check.due(name + " all of THE IMAGE", true, new State(twin).isOf(x));
    }

    private static void told() {
        Check.says("Of several exceptions the one told first is thrown");
        FingerRows x = new FingerRows();
        tell(x, FULL);
        for (int wrong : new int[] {-1, 12, 99, Integer.MIN_VALUE, Integer.MAX_VALUE}) {
            Check.dueThrow("pair", NO_INDEX, () -> x.pair(wrong, wrong));
            Check.dueThrow("at", NO_INDEX, () -> x.at(wrong, wrong));
            Check.dueThrow("column", NO_INDEX, () -> x.column(wrong < 0 ? wrong : 99, wrong));
            Check.dueThrow("net", NO_INDEX, () -> x.net(wrong, wrong));
            Check.dueThrow("best", NO_INDEX, () -> x.best(-1, wrong, true));
            Check.dueThrow("best", NO_INDEX, () -> x.best(x.many(), wrong, true));
            Check.dueThrow("neighbours", NO_INDEX, () -> x.neighbours(wrong, wrong));
            Check.dueThrow("turn", NO_INDEX, () -> x.turn(wrong, wrong));
            Check.dueThrow("move", NO_INDEX, () -> x.move(wrong, wrong));
            Check.dueThrow("fits", NO_INDEX, () -> x.fits(wrong, wrong));
        }
    }
}
