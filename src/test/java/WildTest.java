import java.lang.management.ManagementFactory;
import java.util.NoSuchElementException;
import java.util.Random;

/**
 * Wild calls in wild states: a call throws what the face names and nothing else, changes nothing then, and makes
 * next to nothing; the answers do not depend on what another object does.
 */
public final class WildTest {
    private static final Random random = new Random(36L);
    private static final int[] EDGES = {Integer.MIN_VALUE, Integer.MAX_VALUE, -1, 0, 1, 7, 8, 11, 12, 24, 31, 32, 255,
        256, 1 << 30, -256};
    private static final String[] NAMES = {"feed", "end", "cell", "fault", "pair", "at", "column", "net", "layout",
        "least", "many", "best", "calm", "with", "bound", "agrees", "ofSet", "parted", "dearest", "ties", "lonely",
        "better", "shortest", "neighbours", "starts", "turn", "move", "mirror", "lay", "undo", "fits", "room", "image",
        "back", "count"};
    private static final String[] TEXTS = {"cell 1 1", "cell 2 3;pair 5 up 1 4 low 0 4 wide 5;pin 1;pin 4;rail 0",
        "cell 1 1;pair 0 up 1 1 low 1 1 wide 8", "cell 9 4;pair 0 up 1 2 low 3 4;pair 0 up 2 1 low 5 3;block 0 0 40",
        "cell 1 1;pair 2 up 1 4 low 0 5;pair 3 up 1 4 low 5 4;pair 4 up 1 0 low 0 5;pair 6 up 7 8 low 9 10;pin 9;pin 1",
        "cell 1 2;pair 0 up 1 2 low 3 4 wide 9", "cell 1 2;pair 0 up", "cel"};

    private static String called;

    public static void main(String[] args) {
        for (int run = 0; run < 400; run++) {
            wildRun(run);
        }
        roomOfARun();
        Check.close();
    }

    private static int wild() {
        int kind = random.nextInt(4);
        return kind == 0 ? EDGES[random.nextInt(EDGES.length)] : kind == 1 ? random.nextInt() : random.nextInt(14) - 2;
    }

    private static void wildRun(int run) {
        FingerRows x = new FingerRows();
        FingerRows twin = new FingerRows();
        for (int i = 0; i < 480; i++) {
            if (random.nextInt(20) == 0) {
                String text = TEXTS[random.nextInt(TEXTS.length)];
                Check.feed(x, text);
                Check.feed(twin, text);
            }
            String name = NAMES[random.nextInt(NAMES.length)];
            int[] a = {wild(), wild(), wild(), wild(), wild()};
            long k = random.nextBoolean() ? wild() : random.nextLong();
            long before = print(x);
            String one = call(x, name, a, k);
            if (one.startsWith("throws") && !name.equals("cell")) {
                Check.due("run " + run + " " + called + " changed something though it threw", before, print(x));
            }
            String two = call(twin, name, a, k);
            Check.due("run " + run + " " + called + " " + one + " and " + two, true, one.equals(two));
        }
    }

    /** What can be seen of an object, as one number. */
    private static long print(FingerRows x) {
        long sum = x.fault() + 31L * x.many();
        for (int what = 0; what < 8; what++) {
            sum = sum * 31 + x.count(what);
        }
        for (int what = 0; what < 12; what++) {
            sum = sum * 31 + x.layout(what);
        }
        for (int place = 0; place < x.count(1); place++) {
            sum = sum * 31 + x.at(place, 0) * 4 + x.at(place, 2);
        }
        return sum;
    }

    private static String call(FingerRows x, String name, int[] a, long k) {
        called = name + "(" + a[0] + ", " + a[1] + ", " + k + ")";
        try {
            return "" + answer(x, name, a, k);
        } catch (IndexOutOfBoundsException | IllegalArgumentException | IllegalStateException
            | NoSuchElementException e) {
            if (Check.isOfMachine(e) || !isNamed(name, e.getClass())) {
                Check.report(called + " threw " + e);
            }
            return "throws " + e.getClass();
        }
    }

    private static boolean isNamed(String name, Class<?> thrown) {
        for (java.lang.reflect.Method method : FingerRows.class.getDeclaredMethods()) {
            if (method.getName().equals(name)) {
                for (Class<?> one : method.getExceptionTypes()) {
                    if (one == thrown) {
                        return true;
                    }
                }
            }
        }
        return false;
    }

    private static long answer(FingerRows x, String name, int[] a, long k) {
        boolean b = (a[4] & 1) != 0;
        return switch (name) {
            case "feed" -> x.feed(a[0], a[1], a[2], a[3], a[4]);
            case "end" -> x.end(a[0]) ? 1 : 0;
            case "cell" -> x.cell();
            case "fault" -> x.fault();
            case "pair" -> x.pair(a[0], a[1]);
            case "at" -> x.at(a[0], a[1]);
            case "column" -> x.column(a[0], a[1]);
            case "net" -> x.net(a[0], a[1]);
            case "layout" -> x.layout(a[0]);
            case "least" -> x.least();
            case "many" -> x.many();
            case "best" -> x.best(k, a[0], b);
            case "calm" -> x.calm();
            case "with" -> x.with(a[0], a[1]);
            case "bound" -> x.bound(b);
            case "agrees" -> x.agrees() ? 1 : 0;
            case "ofSet" -> x.ofSet(a[0]);
            case "parted" -> x.parted(a[0], b);
            case "dearest" -> x.dearest();
            case "ties" -> x.ties();
            case "lonely" -> x.lonely();
            case "better" -> x.better(a[0]);
            case "shortest" -> x.shortest(a[0], b);
            case "neighbours" -> x.neighbours(a[0], a[1]);
            case "starts" -> x.starts(a[0]);
            case "turn" -> x.turn(a[0], a[1]);
            case "move" -> x.move(a[0], a[1]);
            case "mirror" -> x.mirror();
            case "lay" -> x.lay(k);
            case "undo" -> x.undo();
            case "fits" -> x.fits(a[0], a[1]);
            case "room" -> x.room(a[0]);
            case "image" -> {
                x.image();
                yield 0;
            }
            case "back" -> x.back() ? 1 : 0;
            case "count" -> x.count(a[0]);
            default -> throw new AssertionError(name);
        };
    }

    /** All calls live in one room: what is made is made with the object. */
    private static void roomOfARun() {
        com.sun.management.ThreadMXBean bean =
            (com.sun.management.ThreadMXBean) ManagementFactory.getThreadMXBean();
        long id = Thread.currentThread().getId();
        long start = bean.getThreadAllocatedBytes(id);
        FingerRows x = new FingerRows();
        long made = bean.getThreadAllocatedBytes(id);
        Check.due("a new object is small, not " + (made - start), true, made - start < 400_000);
        Check.feed(x, TEXTS[2]);
        long before = bean.getThreadAllocatedBytes(id);
        x.cell();
        dearCalls(x);
        long after = bean.getThreadAllocatedBytes(id);
        Check.due("calls make nothing, not " + (after - before), true, after - before < 20_000);
    }

    private static void dearCalls(FingerRows x) {
        for (int i = 0; i < 100; i++) {
            x.shortest(20, true);
            x.with(i % 8, (i + 1) % 8);
            x.neighbours(i % 8, (i + 1) % 8);
            x.better(0);
            x.lay(i * 1000L);
            x.mirror();
            x.image();
            x.back();
            x.parted(4, true);
            x.best(i, 3, true);
        }
    }
}
