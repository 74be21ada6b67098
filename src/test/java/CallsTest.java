import java.io.File;
import java.io.PrintWriter;
import java.io.StringWriter;
import java.util.ArrayList;
import java.util.List;
import java.util.Map;
import java.util.Set;
import java.util.TreeMap;
import java.util.TreeSet;
import java.util.regex.Matcher;
import java.util.regex.Pattern;
import java.util.spi.ToolProvider;

/** Rules 4, 8 and 11 of ../shared/LANGUAGE.md that are seen in what the compiler made: who calls whom. */
public final class CallsTest {
    private static final int DEEPEST = 8;
    private static final int MOST_CLASSES = 12;
    private static final int MOST_FIELDS = 20;
    /** What the program uses of rule 4's list, which allows more. */
    private static final Set<String> LIBRARY = Set.of("java/lang/Object.<init>", "java/lang/Integer.bitCount",
            "java/lang/Math.max", "java/lang/Math.min", "java/lang/String.charAt", "java/lang/String.length",
            "java/lang/System.arraycopy", "java/util/Arrays.fill");
    private static final Pattern CALL = Pattern.compile("invoke\\w+ .*// (?:Interface|Invoke)?\\w+ (?:([\\w/$]+)\\.)?\"?([\\w<>]+)\"?:");

    private final Check check = new Check("CallsTest");
    /** Of each method of the program, as CLASS.name, what it calls; methods of one name are taken as one. */
    private final Map<String, Set<String>> calls = new TreeMap<>();
    private final Map<String, Integer> depths = new TreeMap<>();

    public static void main(String[] args) throws Exception {
        CallsTest test = new CallsTest();
        List<Class<?>> classes = new ArrayList<>(List.of(MarkedChains.class.getDeclaredClasses()));
        classes.add(MarkedChains.class);
        test.check.holds("some twelve classes at most", classes.size() <= MOST_CLASSES);
        for (Class<?> one : classes) {
            test.looksAtFields(one);
            test.readCalls(one);
        }
        test.looksAtLibrary();
        test.looksAtDepth();
        test.check.finish();
    }

    private void looksAtFields(Class<?> one) {
        int fields = 0;
        for (java.lang.reflect.Field field : one.getDeclaredFields()) {
            fields += java.lang.reflect.Modifier.isStatic(field.getModifiers()) ? 0 : 1;
        }
        check.holds(one.getName() + " has " + fields + " fields", fields <= MOST_FIELDS);
    }

    private void readCalls(Class<?> one) throws Exception {
        File folder = new File(one.getProtectionDomain().getCodeSource().getLocation().toURI());
        StringWriter shown = new StringWriter();
        PrintWriter out = new PrintWriter(shown);
        String file = new File(folder, one.getName() + ".class").getPath();
        int failed = ToolProvider.findFirst("javap").orElseThrow().run(out, out, "-p", "-c", file);
        check.due("javap of " + one.getName(), failed, 0);
        Pattern head = Pattern.compile("  (?! ).*?([\\w$.]+)\\(.*\\);");
        String caller = "";
        for (String line : shown.toString().split("\\R")) {
            Matcher heads = head.matcher(line);
            Matcher callee = CALL.matcher(line);
            if (heads.matches()) {
                boolean isConstructor = heads.group(1).equals(one.getName());
                caller = one.getName() + "." + (isConstructor ? "<init>" : heads.group(1));
                calls.computeIfAbsent(caller, name -> new TreeSet<>());
            } else if (callee.find()) {
                String owner = callee.group(1) == null ? one.getName() : callee.group(1);
                calls.get(caller).add(owner + "." + callee.group(2));
            } else {
                check.holds("a call that was read: " + line, !line.contains(": invoke"));
            }
        }
    }

    private void looksAtLibrary() {
        for (Map.Entry<String, Set<String>> method : calls.entrySet()) {
            for (String called : method.getValue()) {
                check.holds(method.getKey() + " calls " + called,
                        calls.containsKey(called) || LIBRARY.contains(called));
            }
        }
        check.holds("methods were found", calls.size() > 80);
    }

    private void looksAtDepth() {
        for (String method : calls.keySet()) {
            int depth = depthOf(method, new ArrayList<>());
            check.holds(method + " goes " + depth + " deep", depth <= DEEPEST);
        }
        check.holds("calls were followed", depths.get("MarkedChains.tell") > 4);
    }

    /** Calls that stand open at once from a method on, itself and the library's among them. */
    private int depthOf(String method, List<String> open) {
        check.holds("no recursion: " + open + " " + method, !open.contains(method));
        if (depths.containsKey(method) || open.contains(method)) {
            return depths.getOrDefault(method, 0);
        }
        open.add(method);
        int deepest = 0;
        for (String called : calls.getOrDefault(method, Set.of())) {
            deepest = Math.max(deepest, depthOf(called, open));
        }
        open.remove(method);
        depths.put(method, deepest + 1);
        return deepest + 1;
    }
}
