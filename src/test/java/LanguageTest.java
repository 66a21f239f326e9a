import java.io.IOException;
import java.lang.reflect.Constructor;
import java.lang.reflect.Field;
import java.lang.reflect.Method;
import java.lang.reflect.Modifier;
import java.nio.file.Files;
import java.nio.file.Path;
import java.util.ArrayList;
import java.util.Arrays;
import java.util.List;
import java.util.Set;
import java.util.TreeSet;
import java.util.regex.Matcher;
import java.util.regex.Pattern;

/** The face of the document, and those rules of LANGUAGE.md that can be seen from the class and its text. */
public final class LanguageTest {
    private static final String[] FACE = {"int feed(int,int,int,int,int)", "boolean end(int)",
        "int cell()IllegalArgumentException", "int fault()",
        "int pair(int,int)IndexOutOfBoundsException,NoSuchElementException",
        "int at(int,int)IndexOutOfBoundsException,NoSuchElementException",
        "int column(int,int)IndexOutOfBoundsException,NoSuchElementException",
        "int net(int,int)IndexOutOfBoundsException,NoSuchElementException", "int layout(int)NoSuchElementException",
        "int least()", "long many()", "int best(long,int,boolean)IndexOutOfBoundsException,IllegalArgumentException",
        "int calm()", "int with(int,int)IndexOutOfBoundsException", "int bound(boolean)", "boolean agrees()",
        "int ofSet(int)IllegalArgumentException", "int parted(int,boolean)IllegalArgumentException", "int dearest()",
        "int ties()", "int lonely()", "int better(int)NoSuchElementException",
        "int shortest(int,boolean)IllegalArgumentException",
        "long neighbours(int,int)IndexOutOfBoundsException,IllegalArgumentException",
        "long starts(int)IndexOutOfBoundsException",
        "int turn(int,int)IndexOutOfBoundsException,IllegalArgumentException",
        "int move(int,int)IndexOutOfBoundsException,IllegalArgumentException", "int mirror()IllegalStateException",
        "int lay(long)IllegalArgumentException", "int undo()IllegalStateException",
        "int fits(int,int)IndexOutOfBoundsException,IllegalArgumentException",
        "int room(int)IndexOutOfBoundsException", "void image()", "boolean back()", "int count(int)"};

    public static void main(String[] args) throws IOException {
        face();
        classes();
        text(Files.readString(Path.of("src/main/java/FingerRows.java")));
        Check.due("NONE", -1, FingerRows.NONE);
        Check.close();
    }

    private static void face() {
        Set<String> seen = new TreeSet<>();
        Set<String> names = new TreeSet<>();
        for (Method method : FingerRows.class.getDeclaredMethods()) {
            if (!Modifier.isPrivate(method.getModifiers())) {
                seen.add(signature(method));
                names.add(method.getName());
            }
        }
        Set<String> want = new TreeSet<>(Arrays.asList(FACE));
        same("the face " + seen, want.equals(seen));
        for (Class<?> one : allClasses()) {
            for (Method method : one.getDeclaredMethods()) {
                boolean ofFace = one == FingerRows.class && !Modifier.isPrivate(method.getModifiers());
                same("no other " + method, ofFace || !names.contains(method.getName()));
                same("parameters of " + method, method.getParameterCount() <= 7);
            }
        }
        for (Field field : FingerRows.class.getDeclaredFields()) {
            same("field " + field, Modifier.isPrivate(field.getModifiers()) || field.getName().equals("NONE"));
        }
        Constructor<?>[] constructors = FingerRows.class.getDeclaredConstructors();
        same("one constructor", constructors.length == 1 && Modifier.isPublic(constructors[0].getModifiers()));
        same("public and final", FingerRows.class.getModifiers() == (Modifier.PUBLIC | Modifier.FINAL));
    }

    private static String signature(Method method) {
        List<String> parameters = new ArrayList<>();
        for (Class<?> one : method.getParameterTypes()) {
            parameters.add(one.getSimpleName());
        }
        List<String> thrown = new ArrayList<>();
        for (Class<?> one : method.getExceptionTypes()) {
            thrown.add(one.getSimpleName());
        }
        return method.getReturnType().getSimpleName() + " " + method.getName() + "(" + String.join(",", parameters)
            + ")" + String.join(",", thrown);
    }

    private static List<Class<?>> allClasses() {
        List<Class<?>> all = new ArrayList<>(Arrays.asList(FingerRows.class.getDeclaredClasses()));
        all.add(FingerRows.class);
        return all;
    }

    private static void classes() {
        same("some twelve classes", allClasses().size() <= 12);
        for (Class<?> one : allClasses()) {
            int fields = 0;
            same(one + " is static", one == FingerRows.class || Modifier.isStatic(one.getModifiers()));
            for (Field field : one.getDeclaredFields()) {
                boolean fixed = Modifier.isStatic(field.getModifiers());
                same("no static state: " + field, !fixed || Modifier.isFinal(field.getModifiers()));
                fields += fixed ? 0 : 1;
            }
            same("some twenty fields in " + one + ": " + fields, fields <= 20);
        }
    }

    private static void text(String source) {
        String code = source.replaceAll("(?s)/\\*.*?\\*/", "").replaceAll("//[^\n]*", "").replaceAll("\"[^\"]*\"", "T");
        String[] ruledOut = {"->", "::", "\\bcatch\\b", "\\btry\\b", "\\bfinally\\b", "\\bsynchronized\\b",
            "\\bassert\\b", "\\bpackage\\b", "\\bdouble\\b", "\\bfloat\\b", "\\bfor \\(;;", "while \\(true\\)",
            "Exact\\b", "\\bSystem\\.(?!arraycopy)", "\\bThread\\b", "\\bprotected\\b", "\\bstatic \\{"};
        for (String pattern : ruledOut) {
            same("ruled out: " + pattern, !Pattern.compile(pattern).matcher(code).find());
        }
        same("one import", code.split("\\bimport\\b").length == 2);
        same("signs of 1 to 127", source.chars().allMatch(c -> c > 0 && c < 128));
        Matcher library = Pattern.compile("\\b(Integer|Long|Math|Arrays|String|StringBuilder)\\.(\\w+)").matcher(code);
        while (library.find()) {
            same("library: " + library.group(), List.of("bitCount", "max", "min").contains(library.group(2)));
        }
        methodsAreShort(source.split("\n"));
    }

    private static void methodsAreShort(String[] lines) {
        int methods = 0;
        for (int begin = 0; begin < lines.length; begin++) {
            Matcher head = Pattern.compile("( {4}| {8})[a-zA-Z].*\\(.*\\{").matcher(lines[begin]);
            if (head.matches()) {
                int end = begin;
                while (end < lines.length && !lines[end].equals(head.group(1) + "}")) {
                    end++;
                }
                methods++;
                same("a method of some sixty lines at line " + (begin + 1), end - begin < 60);
            }
        }
        same("methods are found: " + methods, methods > 100);
    }

    private static void same(String what, boolean holds) {
        Check.due(what, true, holds);
    }
}
