import java.io.PrintWriter;
import java.io.StringWriter;
import java.lang.reflect.Array;
import java.lang.reflect.Field;
import java.lang.reflect.Modifier;
import java.nio.file.Path;
import java.util.ArrayList;
import java.util.HashMap;
import java.util.IdentityHashMap;
import java.util.List;
import java.util.Map;
import java.util.Optional;
import java.util.TreeSet;
import java.util.regex.Matcher;
import java.util.regex.Pattern;
import java.util.spi.ToolProvider;

/** Rules 8, 11 and 12 of LANGUAGE.md: no call leads to itself, none goes deeper than eight, an object stays small. */
final class DepthTest {
    private static final int DEEPEST = 8, MOST_OBJECTS = 200, MOST_ELEMENTS = 10000;
    private static final Pattern METHOD = Pattern.compile("  (?:.* )?([\\w$]+)\\(.*\\);");
    private static final Pattern INVOKED = Pattern.compile(".*invoke\\w+ .*// Method (?:(FireRows[\\w$]*)\\.)?\"?(<init>|\\w+)\"?:.*");
    private static final Checks CHECKS = new Checks("DepthTest");

    private final Map<String, TreeSet<String>> calls = new HashMap<>();
    private final List<String> open = new ArrayList<>();
    private final IdentityHashMap<Object, Object> seen = new IdentityHashMap<>();
    private int elements;

    public static void main(String[] args) throws Exception {
        DepthTest test = new DepthTest();
        test.depth();
        test.room();
        CHECKS.end();
    }

    private void depth() throws Exception {
        Optional<ToolProvider> javap = ToolProvider.findFirst("javap");
        if (javap.isEmpty()) {
            System.out.println("DepthTest: this java has no javap: how deep calls go was not looked at");
            return;
        }
        readCalls(javap.get(), FireRows.class);
        for (Class<?> inside : FireRows.class.getDeclaredClasses()) {
            readCalls(javap.get(), inside);
        }
        CHECKS.due("methods were read: " + calls.size(), 1, calls.size() > 100 ? 1 : 0);
        int deepest = 0;
        for (String method : calls.keySet()) {
            deepest = Math.max(deepest, depthOf(method));
        }
        CHECKS.due("calls were followed", 1, deepest > 4 ? 1 : 0);
    }

    private void readCalls(ToolProvider javap, Class<?> of) throws Exception {
        Path home = Path.of(FireRows.class.getProtectionDomain().getCodeSource().getLocation().toURI());
        StringWriter told = new StringWriter();
        PrintWriter out = new PrintWriter(told);
        int code = javap.run(out, out, "-c", "-p", home.resolve(of.getName() + ".class").toString());
        CHECKS.due("javap of " + of, 0, code);
        String method = "";
        for (String line : told.toString().split("\\R")) {
            Matcher begins = METHOD.matcher(line);
            Matcher invoked = INVOKED.matcher(line);
            if (begins.matches()) {
                String name = begins.group(1);
                method = of.getName() + "." + (name.equals(of.getName()) ? "<init>" : name);
                calls.putIfAbsent(method, new TreeSet<>());
            } else if (invoked.matches()) {
                String target = invoked.group(1) == null ? of.getName() : invoked.group(1);
                calls.get(method).add(target + "." + invoked.group(2));
            }
        }
    }

    private int depthOf(String method) {
        CHECKS.due(method + " leads to itself by " + open, 0, open.contains(method) ? 1 : 0);
        if (open.contains(method)) {
            return 0;
        }
        open.add(method);
        CHECKS.due("calls deeper than " + DEEPEST + ": " + open, 1, open.size() <= DEEPEST ? 1 : 0);
        int below = 0;
        for (String called : calls.getOrDefault(method, new TreeSet<>())) {
            below = Math.max(below, depthOf(called));
        }
        open.remove(open.size() - 1);
        return below + 1;
    }

    private void room() throws Exception {
        weigh(new FireRows());
        CHECKS.due("objects and arrays of one object: " + seen.size(), 1, seen.size() <= MOST_OBJECTS ? 1 : 0);
        CHECKS.due("their fields and elements: " + elements, 1, elements <= MOST_ELEMENTS ? 1 : 0);
    }

    private void weigh(Object o) throws Exception {
        if (o == null || seen.put(o, o) != null) {
            return;
        }
        Class<?> c = o.getClass();
        if (c.isArray()) {
            elements += Array.getLength(o);
            for (int i = 0; !c.getComponentType().isPrimitive() && i < Array.getLength(o); i++) {
                weigh(Array.get(o, i));
            }
            return;
        }
        if (c == String.class) {
            elements += ((String) o).length();
            return;
        }
        for (Field f : c.getDeclaredFields()) {
            if (!Modifier.isStatic(f.getModifiers())) {
                f.setAccessible(true);
                elements++;
                weigh(f.getType().isPrimitive() ? null : f.get(o));
            }
        }
    }
}
