import java.lang.reflect.InvocationTargetException;
import java.lang.reflect.Method;
import java.lang.reflect.Modifier;
import java.util.ArrayList;
import java.util.Comparator;
import java.util.HashMap;
import java.util.List;
import java.util.Map;

/**
 * All promises: many runs of calls, always the same ones, on FlagLaundry and on the Model, which must answer alike
 * and throw alike. The machine's own exceptions are of other classes, so they would show too.
 */
public final class ModelTest {
    private static final int RUNS = 3000;
    /** An object is promised for so many calls. */
    private static final int CALLS = 512;
    private static final Due due = new Due();
    private static final List<Method> CALLED = methods();
    private static final Map<String, int[]> REACHED = new HashMap<>();

    private long seed;
    private int calls = 0;
    /** Whether this run is of laundries as great as there can be, or of small ones. */
    private final boolean great;
    private final FlagLaundry x = new FlagLaundry();
    private final Model model = new Model();
    private final StringBuilder told = new StringBuilder();

    private ModelTest(long seed) {
        this.seed = seed * 0x9E3779B97F4A7C15L + 1;
        great = seed % 4 == 3;
    }

    public static void main(String[] args) {
        int wrong = 0;
        for (int run = 0; run < RUNS && wrong < 3; run++) {
            String fault = new ModelTest(run).run();
            due.isTrue("run " + run + ": " + fault, fault.isEmpty());
            wrong += fault.isEmpty() ? 0 : 1;
        }
        for (Method m : CALLED) {
            int[] reached = REACHED.getOrDefault(m.getName(), new int[2]);
            boolean mayThrow = m.getExceptionTypes().length > 0;
            due.isTrue(m.getName() + " answered " + reached[0] + " times and threw " + reached[1] + " times",
                    reached[0] > 100 && (!mayThrow || reached[1] > 100));
        }
        due.end();
    }

    private static List<Method> methods() {
        List<Method> methods = new ArrayList<>();
        for (Method m : FlagLaundry.class.getDeclaredMethods()) {
            if (Modifier.isPublic(m.getModifiers())) {
                methods.add(m);
            }
        }
        methods.sort(Comparator.comparing(Method::getName));
        return methods;
    }

    /** The fault, or an empty text. */
    private String run() {
        if (below(10) != 0) {
            if (!loadsAlike(text())) {
                return told.toString();
            }
        }
        while (calls < CALLS) {
            boolean alike;
            if (below(60) == 0) {
                String text = text();
                alike = loadsAlike(below(3) == 0 ? spoilt(text) : text);
            } else {
                Method m = CALLED.get(below(CALLED.size()));
                // Changes more often than by chance, and what takes all back less often.
                for (int again = 0; again < 2 && !Model.isChange(m.getName()); again++) {
                    m = CALLED.get(below(CALLED.size()));
                }
                boolean rare = m.getName().equals("load") || m.getName().equals("restore");
                alike = rare && below(4) != 0 || answersAlike(m, arguments(m));
            }
            if (!alike) {
                return told.toString();
            }
        }
        return "";
    }

    private boolean loadsAlike(String text) {
        for (int at = 0; at < text.length(); at += 20) {
            int[] words = new int[5];
            for (int i = 0; i < 20; i++) {
                int b = at + i < text.length() ? text.charAt(at + i) : ' ';
                words[i / 4] = words[i / 4] << 8 | b;
            }
            if (!answersAlike(method("append"), words)) {
                return false;
            }
        }
        told.append("[").append(text).append("] ");
        int n = (int) model.call("buffered");
        int length = Math.min(text.length(), n);
        return answersAlike(method("load"), length) && answersAlike(method("parseError"))
                && answersAlike(method("errorPosition")) && answersAlike(method("buffered"));
    }

    private static Method method(String name) {
        for (Method m : CALLED) {
            if (m.getName().equals(name)) {
                return m;
            }
        }
        throw new AssertionError(name);
    }

    private boolean answersAlike(Method m, int... arguments) {
        if (calls >= CALLS) {
            return true;
        }
        calls++;
        String got = got(m, arguments);
        String want;
        try {
            want = "" + model.call(m.getName(), arguments);
        } catch (IllegalStateException | IllegalArgumentException | IndexOutOfBoundsException e) {
            want = e.getClass().getName();
        }
        int[] reached = REACHED.computeIfAbsent(m.getName(), name -> new int[2]);
        reached[want.startsWith("java") ? 1 : 0]++;
        told.append(m.getName()).append(java.util.Arrays.toString(arguments)).append('=').append(got).append(' ');
        if (!got.equals(want)) {
            told.append("due is ").append(want);
            return false;
        }
        return true;
    }

    private String got(Method m, int[] arguments) {
        Object[] boxed = new Object[arguments.length];
        for (int i = 0; i < boxed.length; i++) {
            boxed[i] = arguments[i];
        }
        try {
            return "" + ((Number) m.invoke(x, boxed)).doubleValue();
        } catch (InvocationTargetException e) {
            return e.getCause().getClass().getName();
        } catch (IllegalAccessException e) {
            throw new AssertionError(e);
        }
    }

    private int[] arguments(Method m) {
        int[] arguments = new int[m.getParameterCount()];
        // Most changes are made with what they accept, so that runs come far.
        int tries = Model.isChange(m.getName()) ? below(12) : 0;
        for (int k = 0; k <= tries; k++) {
            for (int i = 0; i < arguments.length; i++) {
                arguments[i] = argument(m.getName(), i);
            }
            if (tries > 0 && model.accepts(m.getName(), arguments)) {
                break;
            }
        }
        return arguments;
    }

    private int argument(String name, int i) {
        int chance = below(100);
        if (chance == 0) {
            return next();
        }
        if (chance < 3) {
            return -1;
        }
        int flags = great ? 13 : 9;
        int tubs = great ? 4 : 3;
        switch (name) {
            case "count": return below(17);
            case "flag": return i == 0 ? below(flags) : below(11);
            case "nation": return i == 0 ? below(4) : below(8);
            case "colour": return i == 0 ? below(great ? 7 : 5) : below(4);
            case "tub": return i == 0 ? below(tubs) : below(6);
            case "inTub": return i == 0 ? below(tubs) : below(great ? 7 : 3);
            case "whyNotWash", "wash", "running", "stainedIf", "dirtIf", "firstSafe":
                return i == 0 ? below(tubs - 1) : below(4);
            case "whyNotPut", "put": return i == 0 ? below(flags - 1) : below(tubs - 1);
            case "culprit", "writeNation", "latest", "handOver": return below(4);
            case "payIf": return i == 0 ? below(4) : below(102);
            case "fallsIn": return below(102);
            case "pass": return below(10) == 0 ? below(53) : 1 + below(4);
            case "setWind": return below(11);
            case "doNotMix": return i < 2 ? below(flags - 1) : below(5);
            case "groups", "purest": return below(4);
            case "ironsFor", "whyNotIron", "iron": return i == 0 ? below(great ? 12 : 5) : below(4);
            case "bestHeat", "clearTub", "writeTub": return below(tubs);
            case "save", "restore": return below(3);
            case "addFlag": return i == 0 ? below(4) : i == 1 ? 1 + below(great ? 64 : 8) : i == 2 ? below(5) : below(11);
            case "onPeg": return below(great ? 9 : 6);
            case "textByte": return below(6);
            case "load": return below(500);
            default: return below(great ? 12 : 10);
        }
    }

    private String text() {
        StringBuilder text = new StringBuilder("line ").append(great ? 8 - below(3) : 1 + below(4));
        int colours = great ? 6 : 1 + below(5);
        int nations = 1 + below(4);
        int tubs = great ? 3 : 1 + below(2);
        int flags = great ? 12 - below(3) : below(5) == 0 ? below(13) : 2 + below(5);
        for (int c = 0; c < colours; c++) {
            text.append(";colour ").append(below(5));
        }
        for (int n = 0; n < nations; n++) {
            text.append(";nation ").append(below(30)).append(' ').append(1 + below(below(2) == 0 ? 9 : 99)).append(' ').append(below(10));
        }
        for (int t = 0; t < tubs; t++) {
            text.append(";tub ").append(great && t == 0 ? 6 : 1 + below(6));
        }
        for (int f = 0; f < flags; f++) {
            text.append(";flag ").append(below(nations)).append(' ').append(below(4)).append(' ').append(below(3) * below(5));
            int first = below(colours);
            text.append(' ').append(first);
            if (first + 1 < colours && below(2) == 0) {
                text.append(' ').append(first + 1);
            }
        }
        for (int k = below(6); k > 0 && flags > 0; k--) {
            int chance = below(20);
            text.append(chance < 8 ? ";put " + below(flags) + " " + below(tubs)
                    : chance < 11 ? ";wash " + below(tubs) + " " + below(3)
                    : chance < 15 ? ";hang " + below(flags)
                    : chance < 18 ? ";wind " + below(10) : ";pass " + (1 + below(5)));
        }
        return text.toString();
    }

    /** The text with some bytes or words changed. */
    private String spoilt(String text) {
        StringBuilder spoilt = new StringBuilder(text);
        String[] parts = {" ", "  ", ";", "0", "1", "9", "10", "12", "99", "100", "line", "colour", "colours", "nation", "tub",
            "flag", "put", "wash", "hang", "wind", "pass", "x", "A", "-", "\n", "\u00ff", "`", "{", "/", ":", ";colour 1",
            ";nation 1 1 1", ";tub 1", ";flag 0 0 0 0", ";pass 50", ";put 0 0", ";wash 0 0", ";hang 0"};
        for (int k = 1 + below(2); k > 0; k--) {
            int at = below(spoilt.length() + 1);
            int end = Math.min(spoilt.length(), at + below(4));
            if (below(3) != 0) {
                spoilt.replace(at, end, parts[below(parts.length)]);
            } else if (below(2) == 0) {
                spoilt.setLength(at);
            } else {
                spoilt.append(parts[below(parts.length)]);
            }
        }
        return spoilt.toString();
    }

    private int next() {
        seed = seed * 6364136223846793005L + 1442695040888963407L;
        return (int) (seed >>> 32);
    }

    private int below(int bound) {
        return Math.floorMod(next() >>> 7, bound);
    }
}
