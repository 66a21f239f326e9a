import java.io.IOException;
import java.io.UncheckedIOException;
import java.nio.charset.StandardCharsets;
import java.nio.file.Files;
import java.nio.file.Path;
import java.util.Arrays;

/** What all tests share: due answers are compared, texts are told. */
final class Check {
    interface Call {
        long answer();
    }

    private static final Path DOCUMENT = Path.of("../shared/DOC.md");

    private static int wrong = 0;
    private static int checked = 0;
    private static String sentence = "";
    private static String document = null;

    private Check() {
    }

    /** The words of the document that the next answers are about: they must stand there. */
    static void says(String words) {
        sentence = "\"" + words + "\": ";
        checked++;
        if (!document().contains(words)) {
            report("the document does not say so");
        }
    }

    private static String document() {
        if (document == null) {
            try {
                document = Files.readString(DOCUMENT).replaceAll("\\s+", " ");
            } catch (IOException e) {
                throw new UncheckedIOException(e);
            }
        }
        return document;
    }

    static void due(String what, long want, long got) {
        checked++;
        if (want != got) {
            report(what + " answered " + got + ", due is " + want);
        }
    }

    static void due(String what, boolean want, boolean got) {
        due(what, want ? 1 : 0, got ? 1 : 0);
    }

    static void dueThrow(String what, Class<? extends RuntimeException> want, Call call) {
        checked++;
        try {
            report(what + " answered " + call.answer() + ", due is " + want.getSimpleName());
        } catch (RuntimeException e) {
            if (e.getClass() != want || isOfMachine(e)) {
                report(what + " threw " + e + ", due is " + want.getSimpleName());
            }
        }
    }

    /** The class's own throws have the class on top of their trace; the library's and the machine's differ. */
    static boolean isOfMachine(RuntimeException e) {
        Class<?> c = e.getClass();
        boolean known = c == IllegalArgumentException.class || c == IllegalStateException.class
            || c == IndexOutOfBoundsException.class || c == java.util.NoSuchElementException.class;
        StackTraceElement[] trace = e.getStackTrace();
        return !known || trace.length == 0 || !trace[0].getClassName().startsWith("FingerRows");
    }

    static void report(String text) {
        wrong++;
        if (wrong <= 40) {
            System.out.println(sentence + text);
        }
    }

    static void close() {
        System.out.println(checked + " answers checked, " + wrong + " wrong");
        if (wrong != 0) {
            System.exit(1);
        }
    }

    static int wrongSoFar() {
        return wrong;
    }

    static void feed(FingerRows x, String text) {
        byte[] bytes = text.getBytes(StandardCharsets.ISO_8859_1);
        byte[] padded = Arrays.copyOf(bytes, (bytes.length + 19) / 20 * 20);
        for (int i = 0; i < padded.length; i += 20) {
            x.feed(number(padded, i), number(padded, i + 4), number(padded, i + 8), number(padded, i + 12),
                number(padded, i + 16));
        }
        x.end(bytes.length);
    }

    static FingerRows told(String text) {
        FingerRows x = new FingerRows();
        feed(x, text);
        x.cell();
        return x;
    }

    /** The fault of a text that is wrong; -2 of one that is right. */
    static int faultOf(FingerRows x, String text) {
        feed(x, text);
        return faultOfTape(x);
    }

    static int faultOfTape(FingerRows x) {
        try {
            x.cell();
            return -2;
        } catch (IllegalArgumentException e) {
            return x.fault();
        }
    }

    private static int number(byte[] bytes, int i) {
        return (bytes[i] & 255) << 24 | (bytes[i + 1] & 255) << 16 | (bytes[i + 2] & 255) << 8 | bytes[i + 3] & 255;
    }
}
