import java.lang.reflect.InvocationTargetException;
import java.lang.reflect.Method;
import java.lang.reflect.Modifier;
import java.util.Arrays;
import java.util.List;

/**
 * Promises 7 to 62, and section 8: of each argument the least and the greatest that is allowed, the first that isn't
 * on either side, and some far away; which exception goes first; and that nothing is different after a refused call.
 * All of it with a laundry as small as there can be, and with one of the greatest.
 */
public final class ArgumentBoundsTest {
    private static final Due due = new Due();
    private static final Class<?> NO_TEXT = Twins.NO_TEXT;
    private static final Class<?> NO_SUCH = Twins.NO_SUCH;
    private static final Class<?> REFUSED = Twins.REFUSED;

    private static final String LEAST = "line 1;colour 0;nation 0 1 0;tub 1";
    private static final String GREATEST = "line 8;colour 0;colour 1;colour 2;colour 3;colour 4;colour 0;"
            + "nation 0 1 0;nation 99 99 9;nation 5 20 3;nation 1 9 9;tub 6;tub 2;tub 1";

    public static void main(String[] args) {
        questions("least", LEAST, 1, 1, 1, 1, 0);
        questions("greatest", flags(12, 1) + ";put 3 0;put 11 0;put 0 1;hang 5", 6, 4, 3, 8, 12);
        textByte();
        changes();
        historyArguments();
        exceptionsInOrder();
        withoutText();
        due.end();
    }

    /** The greatest laundry with flags of nations 0 to 3 in turn, that bear all, with the colours 0 to 4 in turn. */
    private static String flags(int flags, int dirt) {
        StringBuilder text = new StringBuilder(GREATEST);
        for (int f = 0; f < flags; f++) {
            text.append(";flag ").append(f % 4).append(" 3 ").append(dirt).append(' ').append(f % 5);
        }
        return text.toString();
    }

    private static void questions(String name, String text, int colours, int nations, int tubs, int pegs, int flags) {
        Twins x = Twins.lived(due, text);
        x.asks(name + " count", 0, 15, REFUSED, (y, what) -> y.count(what));
        x.asks(name + " colour", 0, colours - 1, NO_SUCH, (y, c) -> y.colour(c, 0));
        x.asks(name + " colour, what", 0, 2, REFUSED, (y, what) -> y.colour(0, what));
        x.asks(name + " nation", 0, nations - 1, NO_SUCH, (y, n) -> y.nation(n, 0));
        x.asks(name + " nation, what", 0, 6, REFUSED, (y, what) -> y.nation(0, what));
        x.asks(name + " tub", 0, tubs - 1, NO_SUCH, (y, t) -> y.tub(t, 0));
        x.asks(name + " tub, what", 0, 4, REFUSED, (y, what) -> y.tub(0, what));
        x.asks(name + " inTub", 0, tubs - 1, NO_SUCH, (y, t) -> y.inTub(t, 0));
        x.asks(name + " onPeg", 0, pegs - 1, NO_SUCH, (y, p) -> y.onPeg(p));
        x.asks(name + " culprit", 0, nations - 1, NO_SUCH, (y, n) -> y.culprit(n));
        questionsOfTubs(x, name, tubs);
        x.asks(name + " groups", 0, 3, REFUSED, (y, heat) -> y.groups(heat));
        x.asks(name + " purest", 0, 3, REFUSED, (y, heat) -> y.purest(heat));
        x.asks(name + " fallsIn", 0, 99, REFUSED, (y, hours) -> y.fallsIn(hours));
        x.asks(name + " payIf", 0, nations - 1, NO_SUCH, (y, n) -> y.payIf(n, 0));
        x.asks(name + " payIf, hours", 0, 99, REFUSED, (y, hours) -> y.payIf(0, hours));
        x.asks(name + " latest", 0, nations - 1, NO_SUCH, (y, n) -> y.latest(n));
        x.isQuiet(name + " freePegs", FlagLaundry::freePegs);
        x.isQuiet(name + " wettest", FlagLaundry::wettest);
        x.isQuiet(name + " gap", FlagLaundry::gap);
        x.isQuiet(name + " dearest", FlagLaundry::dearest);
        x.isQuiet(name + " readyShare", FlagLaundry::readyShare);
        x.isQuiet(name + " meanDirt", FlagLaundry::meanDirt);
        x.isQuiet(name + " undoable", FlagLaundry::undoable);
        x.isQuiet(name + " buffered", FlagLaundry::buffered);
        x.isQuiet(name + " parseError", FlagLaundry::parseError);
        x.isQuiet(name + " errorPosition", FlagLaundry::errorPosition);
        questionsOfFlags(x, name, flags, tubs);
        writing(x, name, flags, nations, tubs);
    }

    private static void questionsOfTubs(Twins x, String name, int tubs) {
        x.asks(name + " whyNotWash", 0, tubs - 1, NO_SUCH, (y, t) -> y.whyNotWash(t, 0));
        x.asks(name + " whyNotWash, heat", 0, 3, REFUSED, (y, heat) -> y.whyNotWash(0, heat));
        x.asks(name + " running", 0, tubs - 1, NO_SUCH, (y, t) -> y.running(t, 0));
        x.asks(name + " running, heat", 0, 3, REFUSED, (y, heat) -> y.running(0, heat));
        x.asks(name + " stainedIf", 0, tubs - 1, NO_SUCH, (y, t) -> y.stainedIf(t, 0));
        x.asks(name + " stainedIf, heat", 0, 3, REFUSED, (y, heat) -> y.stainedIf(0, heat));
        x.asks(name + " dirtIf", 0, tubs - 1, NO_SUCH, (y, t) -> y.dirtIf(t, 0));
        x.asks(name + " dirtIf, heat", 0, 3, REFUSED, (y, heat) -> y.dirtIf(0, heat));
        x.asks(name + " bestHeat", 0, tubs - 1, NO_SUCH, (y, t) -> y.bestHeat(t));
        x.asks(name + " firstSafe", 0, tubs - 1, NO_SUCH, (y, t) -> y.firstSafe(t, 0));
        x.asks(name + " firstSafe, heat", 0, 3, REFUSED, (y, heat) -> y.firstSafe(0, heat));
    }

    private static void questionsOfFlags(Twins x, String name, int flags, int tubs) {
        int last = flags - 1;
        x.asks(name + " flag", 0, last, NO_SUCH, (y, f) -> y.flag(f, 0));
        x.asks(name + " why", 0, last, NO_SUCH, (y, f) -> y.why(f));
        x.asks(name + " reasons", 0, last, NO_SUCH, (y, f) -> y.reasons(f));
        x.asks(name + " whyNotPut", 0, last, NO_SUCH, (y, f) -> y.whyNotPut(f, 0));
        x.asks(name + " whyNotIron", 0, last, NO_SUCH, (y, f) -> y.whyNotIron(f, 0));
        x.asks(name + " whyNotBleach", 0, last, NO_SUCH, (y, f) -> y.whyNotBleach(f));
        x.asks(name + " washesFor", 0, last, NO_SUCH, (y, f) -> y.washesFor(f));
        x.asks(name + " dryIn", 0, last, NO_SUCH, (y, f) -> y.dryIn(f));
        x.asks(name + " dryByWind", 0, last, NO_SUCH, (y, f) -> y.dryByWind(f, 0));
        x.asks(name + " ironsFor", 0, last, NO_SUCH, (y, f) -> y.ironsFor(f, 0));
        if (flags > 0) {
            x.asks(name + " flag, what", 0, 9, REFUSED, (y, what) -> y.flag(0, what));
            x.asks(name + " whyNotPut, tub", 0, tubs - 1, NO_SUCH, (y, t) -> y.whyNotPut(0, t));
            x.asks(name + " whyNotIron, heat", 0, 3, REFUSED, (y, heat) -> y.whyNotIron(0, heat));
            x.asks(name + " doNotMix", 0, last, NO_SUCH, (y, f) -> y.doNotMix(f, 0, 0));
            x.asks(name + " doNotMix, other", 0, last, NO_SUCH, (y, f) -> y.doNotMix(0, f, 0));
            x.asks(name + " doNotMix, heat", 0, 3, REFUSED, (y, heat) -> y.doNotMix(0, 1, heat));
            x.asks(name + " dryByWind, wind", 0, 9, REFUSED, (y, wind) -> y.dryByWind(0, wind));
            x.asks(name + " ironsFor, heat", 0, 3, REFUSED, (y, heat) -> y.ironsFor(0, heat));
            return;
        }
        x.isThrown("whyNotPut without flags", NO_SUCH, y -> y.whyNotPut(0, 0));
        x.isThrown("doNotMix without flags", NO_SUCH, y -> y.doNotMix(0, 0, 0));
    }

    /** What writes a text is no change; a refused one leaves the text that was written before. */
    private static void writing(Twins x, String name, int flags, int nations, int tubs) {
        if (flags > 0) {
            x.does(name + " writeFlag", 0, flags - 1, NO_SUCH, (y, f) -> y.writeFlag(f));
        } else {
            x.isThrown("writeFlag without flags", NO_SUCH, y -> y.writeFlag(0));
        }
        x.does(name + " writeTub", 0, tubs - 1, NO_SUCH, (y, t) -> y.writeTub(t));
        x.does(name + " writeNation", 0, nations - 1, NO_SUCH, (y, n) -> y.writeNation(n));
        // A lived-in object has written its line last, so all stays as it was.
        x.isQuiet(name + " other texts", y -> {
            for (int f = 0; f < flags; f++) {
                y.writeFlag(f);
            }
            y.writeTub(tubs - 1);
            y.writeNation(nations - 1);
            y.writeLine();
        });
    }

    private static void textByte() {
        // The line of the least laundry is a dot, that of the greatest one has eight pegs and seven slashes.
        Twins.lived(due, LEAST).asks("textByte of a dot", 0, 0, NO_SUCH, (y, i) -> y.textByte(i));
        Twins.lived(due, GREATEST).asks("textByte of a line", 0, 14, NO_SUCH, (y, i) -> y.textByte(i));
        Twins never = new Twins(due, () -> Due.of(LEAST));
        never.isThrown("textByte before the first text", NO_SUCH, y -> y.textByte(0));
        never.isThrown("textByte before the first text", NO_SUCH, y -> y.textByte(-1));
    }

    private static void changes() {
        Twins basket = Twins.lived(due, flags(12, 0));
        basket.does("put", 0, 11, NO_SUCH, (x, f) -> x.put(f, 0));
        basket.does("put, tub", 0, 2, NO_SUCH, (x, t) -> x.put(0, t));
        basket.does("hang", 0, 11, NO_SUCH, (x, f) -> x.hang(f));
        basket.does("clearTub", 0, 2, NO_SUCH, (x, t) -> x.clearTub(t));
        basket.does("iron", 0, 11, NO_SUCH, (x, f) -> x.iron(f, 0));
        basket.does("iron, heat", 0, 3, REFUSED, (x, heat) -> x.iron(0, heat));
        basket.does("handOver", 0, 3, NO_SUCH, (x, n) -> x.handOver(n));
        basket.does("pass", 1, 50, REFUSED, (x, hours) -> x.pass(hours));
        basket.does("setWind", 0, 9, REFUSED, (x, wind) -> x.setWind(wind));
        Twins tubs = Twins.lived(due, flags(12, 0) + ";put 0 0;put 1 1;put 11 2;hang 5");
        tubs.does("wash", 0, 2, NO_SUCH, (x, t) -> x.wash(t, 0));
        tubs.does("wash, heat", 0, 3, REFUSED, (x, heat) -> x.wash(0, heat));
        tubs.does("takeDown out of a tub", 0, 11, NO_SUCH, (x, f) -> x.takeDown(f));
        Twins line = Twins.lived(due, flags(12, 0) + ";hang 0;hang 11");
        line.does("takeDown off the line", 0, 11, NO_SUCH, (x, f) -> x.takeDown(f));
        // Flags 0 and 11 have the colours 0 and 1; both run.
        Twins stained = Twins.lived(due, flags(12, 0) + ";put 0 0;put 11 0;wash 0 1");
        stained.does("bleach", 0, 11, NO_SUCH, (x, f) -> x.bleach(f));
        Twins eleven = Twins.lived(due, flags(11, 0));
        eleven.does("addFlag", 0, 3, NO_SUCH, (x, n) -> x.addFlag(n, 1, 0, 0));
        eleven.does("addFlag, colours", 1, 63, REFUSED, (x, colours) -> x.addFlag(0, colours, 0, 0));
        eleven.does("addFlag, care", 0, 3, REFUSED, (x, care) -> x.addFlag(0, 1, care, 0));
        eleven.does("addFlag, dirt", 0, 9, REFUSED, (x, dirt) -> x.addFlag(0, 1, 0, dirt));
        changesOfTheLeast();
    }

    private static void changesOfTheLeast() {
        Twins none = Twins.lived(due, LEAST);
        none.isThrown("put without flags", NO_SUCH, x -> x.put(0, 0));
        none.isThrown("hang without flags", NO_SUCH, x -> x.hang(0));
        none.isThrown("takeDown without flags", NO_SUCH, x -> x.takeDown(0));
        none.isThrown("iron without flags", NO_SUCH, x -> x.iron(0, 0));
        none.isThrown("bleach without flags", NO_SUCH, x -> x.bleach(0));
        none.isThrown("wash of an empty tub", REFUSED, x -> x.wash(0, 0));
        none.does("clearTub", 0, 0, NO_SUCH, (x, t) -> x.clearTub(t));
        none.does("addFlag", 0, 0, NO_SUCH, (x, n) -> x.addFlag(n, 1, 0, 0));
        none.does("addFlag, colours", 1, 1, REFUSED, (x, colours) -> x.addFlag(0, colours, 0, 0));
        // Two colours: 3 is both, 4 is none that there is, and neither is a part of 5 to 7.
        Twins two = Twins.lived(due, LEAST + ";colour 0");
        two.does("addFlag, two colours", 1, 3, REFUSED, (x, colours) -> x.addFlag(0, colours, 0, 0));
        for (int colours = 5; colours <= 8; colours++) {
            int wrong = colours;
            two.isThrown("addFlag, colours " + wrong, REFUSED, x -> x.addFlag(0, wrong, 0, 0));
        }
        Twins one = Twins.lived(due, LEAST + ";flag 0 3 0 0");
        one.does("put", 0, 0, NO_SUCH, (x, f) -> x.put(f, 0));
        one.does("put, tub", 0, 0, NO_SUCH, (x, t) -> x.put(0, t));
        one.does("hang", 0, 0, NO_SUCH, (x, f) -> x.hang(f));
        one.does("handOver", 0, 0, NO_SUCH, (x, n) -> x.handOver(n));
    }

    private static void historyArguments() {
        Twins.Maker bothSaved = () -> {
            FlagLaundry x = Twins.livedObject(flags(12, 0));
            x.save(1);
            return x;
        };
        Twins saved = new Twins(due, bothSaved);
        saved.does("save", 0, 1, NO_SUCH, (x, slot) -> x.save(slot));
        saved.does("restore", 0, 1, NO_SUCH, (x, slot) -> x.restore(slot));
        Twins oneSaved = Twins.lived(due, flags(12, 0));
        oneSaved.isThrown("restore of what was not saved", NO_TEXT, x -> x.restore(1));
        oneSaved.isThrown("restore(2)", NO_SUCH, x -> x.restore(2));
        Twins fresh = new Twins(due, () -> Due.of(LEAST));
        fresh.isThrown("undo of nothing", NO_TEXT, FlagLaundry::undo);
        fresh.isThrown("restore of nothing", NO_TEXT, x -> x.restore(0));
        fresh.isThrown("restore of nothing", NO_TEXT, x -> x.restore(1));
        fresh.isThrown("restore(-1) of nothing", NO_SUCH, x -> x.restore(-1));
        fresh.isThrown("restore(2) of nothing", NO_SUCH, x -> x.restore(2));
    }

    /** Several exceptions apply: what is not there goes before what is out of range or refused. */
    private static void exceptionsInOrder() {
        Twins x = Twins.lived(due, flags(12, 1) + ";put 0 0;hang 1;put 2 2");
        isNoSuch(x, "colour", y -> y.colour(6, 3), y -> y.colour(-1, -1));
        isNoSuch(x, "nation", y -> y.nation(4, 7), y -> y.nation(-1, -1));
        isNoSuch(x, "flag", y -> y.flag(12, 10), y -> y.flag(-1, -1));
        isNoSuch(x, "tub", y -> y.tub(3, 5), y -> y.tub(-1, -1));
        isNoSuch(x, "inTub", y -> y.inTub(3, 0), y -> y.inTub(-1, -1));
        isNoSuch(x, "whyNotPut", y -> y.whyNotPut(12, 3), y -> y.whyNotPut(-1, -1));
        isNoSuch(x, "whyNotPut of what is not in the basket", y -> y.whyNotPut(1, 3), y -> y.whyNotPut(0, -1));
        isNoSuch(x, "whyNotWash", y -> y.whyNotWash(3, 4), y -> y.whyNotWash(-1, -1));
        isNoSuch(x, "whyNotIron", y -> y.whyNotIron(12, 4), y -> y.whyNotIron(-1, -1));
        isNoSuch(x, "running", y -> y.running(3, 4), y -> y.running(-1, -1));
        isNoSuch(x, "stainedIf", y -> y.stainedIf(3, 4), y -> y.stainedIf(-1, -1));
        isNoSuch(x, "dirtIf", y -> y.dirtIf(3, 4), y -> y.dirtIf(-1, -1));
        isNoSuch(x, "firstSafe", y -> y.firstSafe(3, 4), y -> y.firstSafe(-1, -1));
        isNoSuch(x, "doNotMix", y -> y.doNotMix(12, 0, 4), y -> y.doNotMix(-1, 0, -1));
        isNoSuch(x, "doNotMix, other", y -> y.doNotMix(0, 12, 4), y -> y.doNotMix(0, -1, -1));
        isNoSuch(x, "doNotMix, both", y -> y.doNotMix(12, 12, 0), y -> y.doNotMix(-1, -1, 4));
        isNoSuch(x, "dryByWind", y -> y.dryByWind(12, 10), y -> y.dryByWind(-1, -1));
        isNoSuch(x, "payIf", y -> y.payIf(4, 100), y -> y.payIf(-1, -1));
        isNoSuch(x, "ironsFor", y -> y.ironsFor(12, 4), y -> y.ironsFor(-1, -1));
        isNoSuch(x, "put", y -> y.put(12, 3), y -> y.put(-1, -1));
        isNoSuch(x, "put of what is not in the basket", y -> y.put(1, 3), y -> y.put(0, -1));
        isNoSuch(x, "put where no room is", y -> y.put(12, 2), y -> y.put(-1, 2));
        isNoSuch(x, "wash", y -> y.wash(3, 4), y -> y.wash(-1, -1));
        isNoSuch(x, "iron", y -> y.iron(12, 4), y -> y.iron(-1, -1));
        isNoSuch(x, "addFlag", y -> y.addFlag(4, 64, 4, 10), y -> y.addFlag(-1, 0, -1, -1));
        // Of two that are refused either way the kind is the same.
        x.isThrown("wash of an empty tub, too hot", REFUSED, y -> y.wash(1, 4));
        x.isThrown("iron on the line, too hot", REFUSED, y -> y.iron(1, 4));
        x.isThrown("addFlag, all wrong", REFUSED, y -> y.addFlag(0, 0, 4, 10));
    }

    private static void isNoSuch(Twins x, String name, Twins.Call tooGreat, Twins.Call tooSmall) {
        x.isThrown(name + ", too great", NO_SUCH, tooGreat);
        x.isThrown(name + ", too small", NO_SUCH, tooSmall);
    }

    /** What needs no text, or tells of an index first. */
    private static final List<String> WITHOUT_TEXT = List.of("append", "load", "parseError", "errorPosition",
            "buffered", "textByte", "undoable", "restore");

    private static void withoutText() {
        isWithoutText(new Twins(due, FlagLaundry::new));
        isWithoutText(new Twins(due, () -> {
            FlagLaundry x = new FlagLaundry();
            Due.type(x, LEAST);
            return x;
        }));
        isWithoutText(new Twins(due, () -> {
            FlagLaundry x = new FlagLaundry();
            try {
                Due.load(x, "line 8;colour 0;nation 0 1 0;tub 6;flag 0 3 9 0;pass 50;put 0 0;wash 0 0;wash 0 0");
            } catch (IllegalArgumentException e) {
                // Its error is in its last line, so that all else was read.
            }
            return x;
        }));
    }

    private static void isWithoutText(Twins x) {
        for (Method m : FlagLaundry.class.getDeclaredMethods()) {
            if (Modifier.isPublic(m.getModifiers()) && !WITHOUT_TEXT.contains(m.getName())) {
                for (int number : new int[] {0, 1, -1, Integer.MAX_VALUE}) {
                    x.isThrown(m.getName() + " of " + number + " without a text", NO_TEXT, y -> call(m, y, number));
                }
            }
        }
        x.isThrown("restore(0) without a text", NO_TEXT, y -> y.restore(0));
        x.isThrown("restore(1) without a text", NO_TEXT, y -> y.restore(1));
        x.isThrown("restore(-1) without a text", NO_SUCH, y -> y.restore(-1));
        x.isThrown("restore(2) without a text", NO_SUCH, y -> y.restore(2));
        x.isThrown("textByte(0) without a text", NO_SUCH, y -> y.textByte(0));
        x.isQuiet("undoable", FlagLaundry::undoable);
        due.is("undoable without a text", new FlagLaundry().undoable(), 0);
    }

    /** The call with that number as each argument. */
    private static void call(Method m, FlagLaundry x, int number) {
        Object[] arguments = new Object[m.getParameterCount()];
        Arrays.fill(arguments, number);
        try {
            m.invoke(x, arguments);
        } catch (InvocationTargetException e) {
            throw (RuntimeException) e.getCause();
        } catch (IllegalAccessException e) {
            throw new AssertionError(e);
        }
    }
}
