import java.lang.reflect.Constructor;
import java.lang.reflect.Field;
import java.lang.reflect.Method;
import java.lang.reflect.Modifier;
import java.nio.charset.StandardCharsets;
import java.nio.file.Files;
import java.nio.file.Path;
import java.util.ArrayList;
import java.util.Arrays;
import java.util.List;
import java.util.TreeSet;
import java.util.regex.Matcher;
import java.util.regex.Pattern;

/** The face that the document tells, and rules of LANGUAGE.md that can be seen in the text. */
final class LanguageTest {
    private static final Path SOURCE = Path.of("src/main/java/FireRows.java");
    private static final String FACE = "sheet 3, set 3, copy 5, drop 1, feed 2, floor 0, fault 0, drift 2, where 4, hill 2, "
        + "hills 3, date 3, needle 3, told 2, nearest 3, fits 1, odds 2, belong 2, made 3, pace 3, even 3, bend 3, "
        + "people 3, against 3, turn 1, says 1, wandered 3, leans 3, orders 0, chance 0, bore 0, next 2, image 1, "
        + "restore 1, kind 1, as 2, ask 2, trace 1, count 1, status 0";
    private static final String[] BARRED = {"throw", "throws", "try", "catch", "synchronized", "assert", "package", "->", "::",
        "Exception", "Exact", "System\\.(?!arraycopy)", "Thread", "Random", "hashCode", "toString", "protected", "@"};
    private static final Checks CHECKS = new Checks("LanguageTest");

    public static void main(String[] args) throws Exception {
        face();
        constants();
        String code = withoutComments(Files.readString(SOURCE, StandardCharsets.US_ASCII));
        barredWords(code);
        library(code);
        methods(code);
        room();
        CHECKS.end();
    }

    private static void face() {
        TreeSet<String> want = new TreeSet<>(Arrays.asList(FACE.split(", ")));
        TreeSet<String> got = new TreeSet<>();
        TreeSet<String> names = new TreeSet<>();
        for (Method m : FireRows.class.getDeclaredMethods()) {
            if (Modifier.isPublic(m.getModifiers())) {
                got.add(m.getName() + " " + m.getParameterCount());
                names.add(m.getName());
                CHECKS.due(m + " answers an int", 1, m.getReturnType() == int.class ? 1 : 0);
            } else {
                CHECKS.due(m + " is private", 1, Modifier.isPrivate(m.getModifiers()) ? 1 : 0);
            }
        }
        CHECKS.due("the face is " + got, 1, got.equals(want) ? 1 : 0);
        for (Class<?> inside : FireRows.class.getDeclaredClasses()) {
            int m = inside.getModifiers();
            CHECKS.due(inside + " is static and not public", 1, Modifier.isStatic(m) && !Modifier.isPublic(m) ? 1 : 0);
            CHECKS.due(inside + " has some twenty fields", 1, instanceFields(inside) <= 20 ? 1 : 0);
            for (Method own : inside.getDeclaredMethods()) {
                CHECKS.due(own + " has a name of its own", 0, names.contains(own.getName()) ? 1 : 0);
            }
        }
        CHECKS.due("some twelve classes", 1, FireRows.class.getDeclaredClasses().length + 1 <= 12 ? 1 : 0);
        Constructor<?>[] made = FireRows.class.getDeclaredConstructors();
        CHECKS.due("one constructor", 1, made.length);
        CHECKS.due("it is public and takes nothing", 1,
            Modifier.isPublic(made[0].getModifiers()) && made[0].getParameterCount() == 0 ? 1 : 0);
        CHECKS.due("the class is final", 1, Modifier.isFinal(FireRows.class.getModifiers()) ? 1 : 0);
    }

    private static int instanceFields(Class<?> of) {
        int fields = 0;
        for (Field f : of.getDeclaredFields()) {
            fields += Modifier.isStatic(f.getModifiers()) ? 0 : 1;
        }
        return fields;
    }

    private static void constants() {
        CHECKS.due("NONE", -1000000, FireRows.NONE);
        CHECKS.due("BAD", -1000001, FireRows.BAD);
        CHECKS.due("STATE", -1000002, FireRows.STATE);
        CHECKS.due("FULL", -1000003, FireRows.FULL);
        for (Field f : FireRows.class.getDeclaredFields()) {
            boolean told = List.of("NONE", "BAD", "STATE", "FULL").contains(f.getName());
            CHECKS.due(f + " is public", told ? 1 : 0, Modifier.isPublic(f.getModifiers()) ? 1 : 0);
            CHECKS.due(f + " is private", told ? 0 : 1, Modifier.isPrivate(f.getModifiers()) ? 1 : 0);
        }
    }

    private static String withoutComments(String source) {
        return source.replaceAll("(?s)/\\*.*?\\*/", " ").replaceAll("//[^\n]*", " ");
    }

    private static void barredWords(String code) {
        for (String word : BARRED) {
            String whole = Character.isLetter(word.charAt(0)) ? "\\b" + word : word;
            Matcher m = Pattern.compile(whole + (word.matches("[a-z]+") ? "\\b" : "")).matcher(code);
            CHECKS.due("'" + word + "' in the class", 0, m.find() ? 1 : 0);
        }
    }

    /** Of the library's classes the class uses functions that rule 4 lists, and no constants. */
    private static void library(String code) {
        List<String> listed = List.of("Math.abs", "Math.min", "Math.max", "Integer.bitCount", "Arrays.fill", "System.arraycopy");
        Matcher m = Pattern.compile("\\b(?:Math|Integer|Long|Arrays|System|String|Character)\\.\\w+").matcher(code);
        while (m.find()) {
            CHECKS.due(m.group() + " is listed", 1, listed.contains(m.group()) ? 1 : 0);
        }
    }

    private static void methods(String code) {
        Matcher m = Pattern.compile("\n( {4}| {8})(?:[a-zA-Z\\[\\]]+ )+\\w+\\(([^)]*)\\) \\{\n").matcher(code);
        int seen = 0;
        while (m.find()) {
            seen++;
            CHECKS.due("parameters of" + m.group(), 1, m.group(2).split(",").length <= 7 ? 1 : 0);
            int end = code.indexOf("\n" + m.group(1) + "}\n", m.start());
            long lines = code.substring(m.start() + 1, end).chars().filter(c -> c == '\n').count();
            CHECKS.due("lines of" + m.group(), 1, lines <= 60 ? 1 : 0);
        }
        CHECKS.due("methods were seen", 1, seen > 100 ? 1 : 0);
    }

    /** Calls make nothing: all rows are made in the constructor. */
    private static void room() {
        com.sun.management.ThreadMXBean threads =
            (com.sun.management.ThreadMXBean) java.lang.management.ManagementFactory.getThreadMXBean();
        long own = Thread.currentThread().getId();
        List<Long> taken = new ArrayList<>();
        for (int round = 0; round < 3; round++) {
            FireRows x = Checks.world("floor 9 1 0;fire 0 0 1 0 3 2;house 0 0;story stays 1;story wanders 1;");
            long before = threads.getThreadAllocatedBytes(own);
            int sum = 0;
            for (int i = 0; i < 3; i++) {
                sum += x.made(i % 2, 0, 3) + x.date(i, 0, i) + x.odds(0, 0) + x.turn(2) + x.orders() + x.ask(i, 1);
                sum += x.image(0) + x.restore(0) + x.sheet(0, 0, 3) + x.bore() + x.chance() + x.even(0, 0, 3);
            }
            taken.add(threads.getThreadAllocatedBytes(own) - before + (sum == 7 ? 1 : 0));
        }
        CHECKS.due("calls make next to nothing: " + taken, 1, taken.get(2) < 1000 ? 1 : 0);
    }
}
