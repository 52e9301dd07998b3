import java.io.PrintWriter;
import java.io.StringWriter;
import java.net.URISyntaxException;
import java.nio.file.Path;
import java.util.ArrayList;
import java.util.HashMap;
import java.util.List;
import java.util.Map;
import java.util.Set;
import java.util.TreeSet;
import java.util.regex.Matcher;
import java.util.regex.Pattern;
import java.util.spi.ToolProvider;

/** The rules of LANGUAGE.md that can be seen in the compiled class, as javap tells it. */
public final class CodeTest {
    private static final int MOST_DEEP = 8;
    private static final Due due = new Due();
    private static final Pattern CLASS = Pattern.compile("^(?:[a-z]+ )*class (FlagLaundry[$\\w]*).*\\{$");
    private static final Pattern METHOD = Pattern.compile("^  (?:\\S+ )*?([$\\w]+)\\(.*\\).*;$");
    private static final Pattern CALL = Pattern.compile("// (?:Interface)?Method (?:([\\w/$]+)\\.)?\"?([<>\\w]+)\"?:");
    /** What of the library this class uses, of what the rules 4 and 6 allow. */
    private static final Set<String> LIBRARY = Set.of("java/lang/Object.<init>", "java/lang/Math.max",
            "java/lang/Math.min", "java/lang/Math.abs", "java/lang/Integer.bitCount", "java/lang/String.length",
            "java/lang/String.charAt", "java/util/Arrays.fill", "java/lang/System.arraycopy",
            "java/lang/IllegalStateException.<init>", "java/lang/IllegalArgumentException.<init>",
            "java/lang/IndexOutOfBoundsException.<init>");

    private final Map<String, Set<String>> calls = new HashMap<>();
    private final List<String> faults = new ArrayList<>();

    public static void main(String[] args) throws URISyntaxException {
        CodeTest code = new CodeTest();
        code.read(told());
        code.faults.forEach(fault -> due.isTrue(fault, false));
        due.isTrue("only " + code.calls.size() + " methods were read", code.calls.size() > 150);
        for (String method : code.calls.keySet()) {
            int depth = code.depth(method, 1);
            due.isTrue(method + " goes " + depth + " calls deep, or calls itself", depth <= MOST_DEEP);
            for (String called : code.calls.get(method)) {
                due.isTrue(method + " calls " + called, code.calls.containsKey(called) || LIBRARY.contains(called));
            }
        }
        due.end();
    }

    private static String told() throws URISyntaxException {
        Path folder = Path.of(FlagLaundry.class.getProtectionDomain().getCodeSource().getLocation().toURI());
        List<String> files = new ArrayList<>(List.of("-p", "-c"));
        files.add(folder.resolve("FlagLaundry.class").toString());
        for (Class<?> inside : FlagLaundry.class.getDeclaredClasses()) {
            files.add(folder.resolve(inside.getName() + ".class").toString());
        }
        StringWriter told = new StringWriter();
        PrintWriter out = new PrintWriter(told);
        ToolProvider.findFirst("javap").orElseThrow().run(out, out, files.toArray(new String[0]));
        out.flush();
        return told.toString();
    }

    private void read(String told) {
        String inClass = "";
        String method = "";
        for (String line : told.split("\\R")) {
            Matcher found = CLASS.matcher(line);
            if (found.find()) {
                inClass = found.group(1);
            }
            found = METHOD.matcher(line);
            if (found.find()) {
                String name = found.group(1);
                method = inClass + "." + (name.equals(inClass) ? "<init>" : name);
                calls.put(method, new TreeSet<>());
            }
            if (!method.isEmpty()) {
                readInstruction(inClass, method, line);
            }
        }
    }

    private void readInstruction(String inClass, String method, String line) {
        Matcher found = CALL.matcher(line);
        if (found.find()) {
            calls.get(method).add((found.group(1) == null ? inClass : found.group(1)) + "." + found.group(2));
        }
        note(method.endsWith("<init>") && line.contains(": athrow"), method + " throws");
        note(line.contains("Exception table:"), method + " catches");
        note(line.contains("invokedynamic"), method + " has a lambda or joins texts by +");
        note(line.contains("static {}"), inClass + " has a static initialiser");
        note(line.contains(": monitorenter"), method + " is synchronized");
    }

    private void note(boolean fault, String told) {
        if (fault) {
            faults.add(told);
        }
    }

    /** How many calls stand open at most from this one on; beyond the limit, as with recursion, it looks no deeper. */
    private int depth(String method, int above) {
        int deepest = 0;
        if (above <= MOST_DEEP + 1) {
            for (String called : calls.getOrDefault(method, Set.of())) {
                deepest = Math.max(deepest, calls.containsKey(called) ? depth(called, above + 1) : 0);
            }
        }
        return deepest + 1;
    }
}
