import java.io.IOException;
import java.lang.reflect.Constructor;
import java.lang.reflect.Field;
import java.lang.reflect.Method;
import java.lang.reflect.Modifier;
import java.nio.charset.StandardCharsets;
import java.nio.file.Files;
import java.nio.file.Path;
import java.util.ArrayList;
import java.util.Arrays;
import java.util.Collections;
import java.util.List;
import java.util.regex.Matcher;
import java.util.regex.Pattern;

/** The public face of the document, and those rules of LANGUAGE.md that can be seen from outside. */
public final class FaceTest {
    private static final Due due = new Due();
    /** Answer, name, number of int parameters, and S, X and A for what may be thrown, in the document's order. */
    private static final String[] FACE = {
        "int append(5)",
        "int load(1) XA",
        "int parseError(0)",
        "int errorPosition(0)",
        "int buffered(0)",
        "int count(1) SA",
        "int colour(2) SXA",
        "int nation(2) SXA",
        "int flag(2) SXA",
        "int tub(2) SXA",
        "int inTub(2) SX",
        "int onPeg(1) SX",
        "int freePegs(0) S",
        "int wettest(0) S",
        "int gap(0) S",
        "int why(1) SX",
        "int reasons(1) SX",
        "int culprit(1) SX",
        "int whyNotPut(2) SX",
        "int whyNotWash(2) SXA",
        "int whyNotIron(2) SXA",
        "int whyNotBleach(1) SX",
        "int running(2) SXA",
        "int stainedIf(2) SXA",
        "int dirtIf(2) SXA",
        "int bestHeat(1) SX",
        "int firstSafe(2) SXA",
        "int doNotMix(3) SXA",
        "int groups(1) SA",
        "int purest(1) SA",
        "int washesFor(1) SX",
        "int dryIn(1) SX",
        "int dryByWind(2) SXA",
        "int fallsIn(1) SA",
        "int payIf(2) SXA",
        "int latest(1) SX",
        "int dearest(0) S",
        "int ironsFor(2) SXA",
        "float readyShare(0) S",
        "double meanDirt(0) S",
        "int writeFlag(1) SX",
        "int writeTub(1) SX",
        "int writeNation(1) SX",
        "int writeLine(0) S",
        "int textByte(1) X",
        "int put(2) SXA",
        "int wash(2) SXA",
        "int hang(1) SXA",
        "int hangAll(0) S",
        "int takeDown(1) SXA",
        "int clearTub(1) SX",
        "int iron(2) SXA",
        "int bleach(1) SXA",
        "int handOver(1) SXA",
        "int pass(1) SA",
        "int setWind(1) SA",
        "int addFlag(4) SXA",
        "int undo(0) S",
        "int undoable(0)",
        "int save(1) SX",
        "int restore(1) XS"
    };

    public static void main(String[] args) throws IOException {
        face();
        classes();
        source(Files.readString(Path.of(System.getProperty("flaglaundry.source", "src/main/java/FlagLaundry.java")),
                StandardCharsets.ISO_8859_1));
        due.end();
    }

    private static void face() {
        Class<?> c = FlagLaundry.class;
        due.isTrue("public and final", Modifier.isPublic(c.getModifiers()) && Modifier.isFinal(c.getModifiers()));
        List<String> found = new ArrayList<>();
        List<String> hidden = new ArrayList<>();
        for (Method m : c.getDeclaredMethods()) {
            (Modifier.isPrivate(m.getModifiers()) ? hidden : found).add(told(m));
        }
        List<String> want = new ArrayList<>(Arrays.asList(FACE));
        Collections.sort(found);
        Collections.sort(want);
        due.isTrue("the methods are " + found, found.equals(want));
        for (String method : hidden) {
            String name = method.replaceAll("\\(.*", "").replaceAll(".* ", "");
            due.isTrue(name + " is a name of the face", want.stream().noneMatch(w -> w.contains(" " + name + "(")));
        }
        Constructor<?>[] constructors = c.getDeclaredConstructors();
        due.isTrue("one constructor", constructors.length == 1 && constructors[0].getParameterCount() == 0
                && Modifier.isPublic(constructors[0].getModifiers()));
        for (Field f : c.getDeclaredFields()) {
            due.isTrue(f.getName() + " is not private", Modifier.isPrivate(f.getModifiers()) || f.getName().equals("NONE"));
        }
    }

    private static String told(Method m) {
        StringBuilder thrown = new StringBuilder();
        for (Class<?> e : m.getExceptionTypes()) {
            thrown.append(e == IllegalStateException.class ? "S" : e == IndexOutOfBoundsException.class ? "X" : "A");
        }
        return (m.getReturnType() + " " + m.getName() + "(" + m.getParameterCount() + ") " + thrown).trim();
    }

    private static void classes() {
        Class<?>[] inside = FlagLaundry.class.getDeclaredClasses();
        due.isTrue(inside.length + " classes inside", inside.length < 12);
        List<Class<?>> all = new ArrayList<>(Arrays.asList(inside));
        all.add(FlagLaundry.class);
        for (Class<?> c : all) {
            due.isTrue(c + " is not static", c == FlagLaundry.class || Modifier.isStatic(c.getModifiers()));
            int fields = 0;
            for (Field f : c.getDeclaredFields()) {
                boolean isStatic = Modifier.isStatic(f.getModifiers());
                due.isTrue(f + " is static and not final", !isStatic || Modifier.isFinal(f.getModifiers()));
                fields += isStatic ? 0 : 1;
            }
            due.isTrue(c + " has " + fields + " fields", fields <= 20);
            for (Method m : c.getDeclaredMethods()) {
                due.isTrue(m + " has too many parameters", m.getParameterCount() <= 7);
                due.isTrue(m + " is a lambda's", !m.isSynthetic());
            }
        }
    }

    private static void source(String source) {
        String code = source.replaceAll("(?s)/\\*.*?\\*/", "").replaceAll("//[^\n]*", "").replaceAll("\"[^\"]*\"", "text");
        String[] ruledOut = {"->", "::", "\\bassert\\b", "\\bsynchronized\\b", "\\bfinally\\b", "\\btry\\b", "\\bcatch\\b",
            "\\binstanceof\\b", "\\bvar\\b", "\\bpackage\\b", "\\bSystem\\.(?!arraycopy)", "\\bThread\\b", "Exact\\(", "\\bstatic \\{",
            "\\bequals\\b", "\\bhashCode\\b", "\\btoString\\b", "import (?!java\\.util\\.Arrays;)", "[^\\x00-\\x7e]"};
        for (String rule : ruledOut) {
            Matcher found = Pattern.compile(rule).matcher(code);
            due.isTrue("the source has " + rule, !found.find());
        }
        methodLengths(source.split("\\n"), "    ");
        methodLengths(source.split("\\n"), "        ");
    }

    /** Methods and no classes, of the class or of those inside it, by how far they stand to the right. */
    private static void methodLengths(String[] lines, String indent) {
        int start = -1;
        for (int i = 0; i < lines.length; i++) {
            if (lines[i].matches(indent + "\\w.*") && !lines[i].endsWith(";")) {
                start = lines[i].contains(" class ") ? -1 : i;
            }
            if (lines[i].equals(indent + "}") && start >= 0) {
                due.isTrue("a method of " + (i - start) + " lines ends at line " + (i + 1), i - start <= 60);
            }
        }
    }
}
