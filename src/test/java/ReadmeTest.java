import java.lang.reflect.Method;
import java.lang.reflect.Modifier;
import java.nio.file.Files;
import java.nio.file.Path;
import java.util.regex.Matcher;
import java.util.regex.Pattern;

/** README.md: each line that tells an answer behind // is run, and every call of the face is named. */
final class ReadmeTest {
    private static final Pattern READ = Pattern.compile("read\\(x, \"([^\"]*)\"\\); +// (-?\\d+)\\b.*");
    private static final Pattern CALL = Pattern.compile("(x|new FireRows\\(\\))\\.(\\w+)\\(([^)]*)\\); +// (-?\\d+)\\b.*");
    private static final Checks CHECKS = new Checks("ReadmeTest");

    public static void main(String[] args) throws Exception {
        String page = Files.readString(Path.of("README.md"));
        FireRows x = null;
        int run = 0;
        for (String line : page.split("\n")) {
            Matcher read = READ.matcher(line);
            Matcher call = CALL.matcher(line);
            if (line.equals("FireRows x = new FireRows();")) {
                x = new FireRows();
            } else if (read.matches()) {
                CHECKS.due(line, Integer.parseInt(read.group(2)), Checks.read(x, read.group(1)));
                run++;
            } else if (call.matches()) {
                FireRows of = call.group(1).equals("x") ? x : new FireRows();
                CHECKS.due(line, Integer.parseInt(call.group(4)), answer(of, call.group(2), call.group(3)));
                run++;
            } else {
                CHECKS.due("an answer is told, but not run: " + line, 0, line.matches(".*; +// .*") ? 1 : 0);
            }
        }
        CHECKS.due("lines were run", 1, run > 40 ? 1 : 0);
        for (Method m : FireRows.class.getDeclaredMethods()) {
            if (Modifier.isPublic(m.getModifiers())) {
                CHECKS.due(m.getName() + " is named", 1, page.contains("`" + m.getName() + "`") ? 1 : 0);
            }
        }
        CHECKS.end();
    }

    private static int answer(FireRows x, String name, String arguments) throws Exception {
        String[] told = arguments.isEmpty() ? new String[0] : arguments.split(", ");
        Object[] values = new Object[told.length];
        Class<?>[] types = new Class<?>[told.length];
        for (int i = 0; i < told.length; i++) {
            values[i] = Integer.valueOf(told[i]);
            types[i] = int.class;
        }
        return (Integer) FireRows.class.getMethod(name, types).invoke(x, values);
    }
}
