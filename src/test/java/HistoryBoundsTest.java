/** Promises 59 to 62, and section 8: how many changes are kept, what is one, and what stays behind what. */
public final class HistoryBoundsTest {
    private static final Due due = new Due();
    private static final String LEAST = "line 1;colour 0;nation 0 1 0;tub 1";
    private static final String TWO = "line 2;colour 0;colour 4;nation 0 9 0;nation 1 9 9;tub 2;tub 1;flag 0 3 0 0;flag 1 3 9 1";

    public static void main(String[] args) {
        eightOfMany();
        undoneOnesDoNotCount();
        eachIsAChange();
        refusedOnesAreNone();
        questionsAreNone();
        whatStartsAnew();
        whatDoesNot();
        fullTubs();
        anotherFlagOfThatNumber();
        twoSlots();
        savedStaysSaved();
        whatStays();
        due.end();
    }

    /** Each number of changes: as many can be undone, but for the ninth and more. */
    private static void eightOfMany() {
        for (int changes = 0; changes <= 30; changes++) {
            FlagLaundry x = Due.of(TWO);
            for (int k = 1; k <= changes; k++) {
                x.pass(1);
                due.is("undoable", x.undoable(), Math.min(k, 8));
            }
            int kept = Math.min(changes, 8);
            for (int left = kept - 1; left >= 0; left--) {
                due.is("undo", x.undo(), left);
                due.is("HOUR", x.count(5), changes - kept + left);
                due.is("undoable", x.undoable(), left);
            }
            due.noneThere("undo of the ninth", x::undo);
            due.is("HOUR", x.count(5), changes - kept);
            due.is("undoable", x.undoable(), 0);
        }
    }

    /** Changes and undos in turn, so that those that are kept stand anywhere among the eight places. */
    private static void undoneOnesDoNotCount() {
        for (int back = 1; back <= 8; back++) {
            FlagLaundry x = Due.of(TWO);
            for (int k = 0; k < 8; k++) {
                x.pass(1);
            }
            for (int round = 1; round <= 5; round++) {
                for (int k = 1; k <= back; k++) {
                    due.is("undo", x.undo(), 8 - k);
                }
                for (int k = 1; k <= back; k++) {
                    x.pass(2);
                    due.is("undoable", x.undoable(), 8 - back + k);
                }
            }
            due.is("HOUR", x.count(5), 8 - back + 2 * back);
            x.setWind(5);
            due.is("undoable", x.undoable(), 8);
            for (int left = 7; left >= 0; left--) {
                due.is("undo", x.undo(), left);
            }
            // The oldest of the nine was an hour, or two if all of the eight were made anew.
            due.is("HOUR then", x.count(5), back == 8 ? 2 : 1);
            due.is("WIND then", x.count(6), 0);
            due.noneThere("undo", x::undo);
        }
    }

    /** Each kind of change, and those that make nothing different. */
    private static void eachIsAChange() {
        String text = TWO + ";put 1 1;wash 1 0;put 1 1";
        isChange("put", text, x -> x.put(0, 0));
        isChange("wash", text, x -> x.wash(1, 0));
        isChange("hang", text, x -> x.hang(0));
        isChange("hangAll of none", text, x -> due.is("hangAll", x.hangAll(), 0));
        isChange("hangAll of all", TWO + ";put 1 1;wash 1 0", x -> due.is("hangAll", x.hangAll(), 1));
        isChange("hangAll without flags", "line 1;colour 0;nation 0 1 0;tub 1", x -> due.is("hangAll", x.hangAll(), 0));
        isChange("hangAll on no peg", "line 1;colour 0;nation 0 1 0;tub 2;flag 0 0 0 0;flag 0 0 0 0;put 0 0;put 1 0;wash 0 0;hang 1",
                x -> due.is("hangAll", x.hangAll(), 0));
        isChange("takeDown", text, x -> x.takeDown(1));
        isChange("clearTub", text, x -> due.is("clearTub", x.clearTub(1), 1));
        isChange("clearTub of none", text, x -> due.is("clearTub", x.clearTub(0), 0));
        isChange("iron of what is smooth", text, x -> due.is("iron", x.iron(0, 3), 0));
        isChange("bleach", TWO + ";put 0 0;put 1 0;wash 0 0", x -> due.is("bleach", x.bleach(1), 1));
        isChange("handOver", text, x -> due.is("handOver", x.handOver(0), 9));
        isChange("handOver, late", TWO.replace("nation 0 9 0", "nation 0 9 4") + ";pass 1", x -> x.handOver(0));
        isChange("pass", text, x -> x.pass(1));
        isChange("setWind", text, x -> x.setWind(9));
        isChange("setWind to what it is", text, x -> due.is("setWind", x.setWind(0), 0));
        isChange("addFlag", text, x -> x.addFlag(0, 1, 0, 0));
        isChange("addFlag of a nation without any", "line 1;colour 0;nation 0 1 0;tub 1", x -> x.addFlag(0, 1, 0, 0));
    }

    private static void isChange(String name, String text, Twins.Call change) {
        Twins.lived(due, text).isUndone(name, change);
        new Twins(due, () -> Due.of(text)).isUndone(name, change);
        // As a ninth change it is kept, and the first one isn't any more.
        FlagLaundry x = Due.of(text);
        x.pass(1);
        for (int k = 0; k < 7; k++) {
            x.setWind(0);
        }
        String before = Snapshot.brief(x);
        change.of(x);
        due.is(name + " as a ninth, undoable", x.undoable(), 8);
        due.is(name + " as a ninth, undo", x.undo(), 7);
        due.isTrue(name + " as a ninth was not undone", Snapshot.brief(x).equals(before));
        for (int left = 6; left >= 0; left--) {
            due.is("undo", x.undo(), left);
        }
        due.is(name + " leaves the hour before it", x.count(5), Due.of(text).count(5) + 1);
    }

    private static void refusedOnesAreNone() {
        FlagLaundry x = Due.of(TWO + ";put 1 1");
        x.setWind(3);
        Due.Call[] refused = {() -> x.put(1, 0), () -> x.wash(0, 0), () -> x.hang(1), () -> x.takeDown(0), () -> x.iron(1, 0),
            () -> x.bleach(0), () -> x.handOver(1), () -> x.pass(0), () -> x.setWind(10), () -> x.addFlag(0, 0, 0, 0)};
        for (Due.Call call : refused) {
            due.refused("refused", call);
            due.is("undoable", x.undoable(), 1);
        }
        Due.Call[] noSuch = {() -> x.put(2, 0), () -> x.wash(2, 0), () -> x.hang(2), () -> x.takeDown(2), () -> x.clearTub(2),
            () -> x.iron(2, 0), () -> x.bleach(2), () -> x.handOver(2), () -> x.addFlag(2, 1, 0, 0), () -> x.save(2), () -> x.restore(2)};
        for (Due.Call call : noSuch) {
            due.outOfBounds("no such", call);
            due.is("undoable", x.undoable(), 1);
        }
        due.is("undo", x.undo(), 0);
        due.is("WIND", x.count(6), 0);
    }

    private static void questionsAreNone() {
        for (int kind = 1; kind <= 5; kind++) {
            FlagLaundry x = Twins.livedObject(TWO);
            Snapshot.of(x, kind);
            due.is("undoable behind questions of kind " + kind, x.undoable(), 3);
        }
        for (int slot = 0; slot <= 1; slot++) {
            FlagLaundry x = Twins.livedObject(TWO);
            String before = Snapshot.brief(x);
            due.is("save", x.save(slot), 1);
            due.is("save is no change", x.undoable(), 3);
            due.isTrue("save changed something", Snapshot.brief(x).equals(before));
            due.is("undo", x.undo(), 2);
        }
    }

    /** A load or a restore that succeeds: nothing can be undone, and eight changes since then can. */
    private static void whatStartsAnew() {
        FlagLaundry x = Due.of(TWO);
        x.save(1);
        for (int k = 0; k < 11; k++) {
            x.pass(1);
        }
        due.is("restore", x.restore(1), 0);
        due.is("undoable", x.undoable(), 0);
        due.noneThere("undo", x::undo);
        due.is("HOUR", x.count(5), 0);
        for (int k = 1; k <= 9; k++) {
            x.pass(1);
            due.is("undoable", x.undoable(), Math.min(k, 8));
        }
        due.is("load", Due.load(x, TWO), 2);
        due.is("undoable", x.undoable(), 0);
        due.noneThere("undo", x::undo);
        due.noneThere("restore(0)", () -> x.restore(0));
        due.noneThere("restore(1)", () -> x.restore(1));
        due.is("HOUR", x.count(5), 0);
        for (int k = 1; k <= 9; k++) {
            x.pass(1);
            due.is("undoable", x.undoable(), Math.min(k, 8));
        }
        for (int left = 7; left >= 0; left--) {
            due.is("undo", x.undo(), left);
        }
        due.is("HOUR", x.count(5), 1);
    }

    private static void whatDoesNot() {
        Twins x = Twins.lived(due, TWO);
        x.isThrown("restore of nothing", Twins.NO_TEXT, y -> y.restore(1));
        x.isThrown("restore(2)", Twins.NO_SUCH, y -> y.restore(2));
        x.isThrown("restore(-1)", Twins.NO_SUCH, y -> y.restore(-1));
        x.isThrown("save(2)", Twins.NO_SUCH, y -> y.save(2));
        x.isThrown("save(-1)", Twins.NO_SUCH, y -> y.save(-1));
        x.isThrown("load(-1)", Twins.NO_SUCH, y -> y.load(-1));
        x.isLoadRefused(TWO + ";pass 51");
        FlagLaundry y = Due.of(TWO);
        y.pass(1);
        y.undo();
        String before = Snapshot.brief(y);
        due.noneThere("undo", y::undo);
        due.isTrue("an undo that is refused changes nothing", Snapshot.brief(y).equals(before));
        due.is("undoable", y.undoable(), 0);
    }

    /** Three tubs and a line as full as twelve flags make them: undo and restore bring all back in their order. */
    private static void fullTubs() {
        String setup = "line 8;colour 0;nation 0 1 0;tub 6;tub 6;tub 6" + ";flag 0 3 0 0".repeat(12);
        for (int t = 0; t <= 2; t++) {
            int tub = t;
            StringBuilder text = new StringBuilder(setup);
            for (int f = 0; f < 6; f++) {
                text.append(";put ").append(11 - f).append(' ').append(tub).append(";put ").append(f).append(' ').append((tub + 1) % 3);
            }
            for (int full : new int[] {tub, (tub + 1) % 3}) {
                isChange("clearTub of six", text.toString(), x -> due.is("clearTub", x.clearTub(full), 6));
                isChange("wash of six", text.toString(), x -> x.wash(full, 3));
                isChange("takeDown of the first of six", text.toString(), x -> x.takeDown(full == tub ? 11 : 0));
                isChange("takeDown of the last of six", text.toString(), x -> x.takeDown(full == tub ? 6 : 5));
                FlagLaundry x = Due.of(text.toString());
                x.save(1);
                x.clearTub(full);
                for (int f = 0; f < 6; f++) {
                    x.put(full == tub ? f + 6 : 5 - f, full);
                }
                x.restore(1);
                for (int i = 0; i < 6; i++) {
                    due.is("inTub(" + full + ", " + i + ")", x.inTub(full, i), full == tub ? 11 - i : i);
                }
            }
        }
        String line = setup + ";hang 7;hang 6;hang 5;hang 4;hang 3;hang 2;hang 1;hang 0";
        isChange("takeDown off the first of eight pegs", line, x -> x.takeDown(7));
        isChange("takeDown off the last of eight pegs", line, x -> x.takeDown(0));
        isChange("all fall", line + ";wind 7", x -> x.pass(8));
    }

    /** A flag that was undone and another one that came then have the same number; what was saved is the first one. */
    private static void anotherFlagOfThatNumber() {
        FlagLaundry x = Due.of(TWO);
        x.addFlag(1, 3, 2, 9);
        x.save(0);
        x.undo();
        due.is("flags", x.count(4), 2);
        due.outOfBounds("flag 2", () -> x.flag(2, 0));
        x.addFlag(0, 1, 1, 4);
        isFlagTwo("the new one", x, 0, 1, 1, 4);
        x.setWind(1);
        x.undo();
        isFlagTwo("behind a change that was undone", x, 0, 1, 1, 4);
        x.restore(0);
        isFlagTwo("the one that was saved", x, 1, 3, 2, 9);
        due.is("flags of nation 1", x.nation(1, 3), 2);
        // Restored with a flag less, and more flags then.
        FlagLaundry y = Due.of(TWO);
        y.save(1);
        for (int f = 2; f <= 11; f++) {
            y.addFlag(1, 3, 2, 9);
        }
        y.restore(1);
        due.is("flags", y.count(4), 2);
        due.outOfBounds("flag 2", () -> y.flag(2, 0));
        due.is("addFlag", y.addFlag(0, 2, 3, 5), 2);
        isFlagTwo("a new one", y, 0, 2, 3, 5);
        due.is("undo", y.undo(), 0);
        due.outOfBounds("flag 2", () -> y.flag(2, 0));
    }

    private static void isFlagTwo(String name, FlagLaundry x, int nation, int colours, int care, int dirt) {
        due.is(name + ", nation", x.flag(2, 0), nation);
        due.is(name + ", colours", x.flag(2, 1), colours);
        due.is(name + ", CARE", x.flag(2, 2), care);
        due.is(name + ", DIRT", x.flag(2, 3), dirt);
    }

    private static void twoSlots() {
        FlagLaundry x = Due.of(TWO);
        due.is("save", x.save(0), 0);
        x.pass(1);
        due.noneThere("the other one is empty", () -> x.restore(1));
        due.is("save", x.save(1), 1);
        x.pass(1);
        due.is("slot 0", x.restore(0), 0);
        due.is("HOUR", x.count(5), 0);
        due.is("slot 1", x.restore(1), 1);
        due.is("HOUR", x.count(5), 1);
        x.pass(8);
        due.is("in place of it", x.save(0), 9);
        x.pass(50);
        due.is("slot 1 is as it was", x.restore(1), 1);
        due.is("slot 0 is the new one", x.restore(0), 9);
        due.is("HOUR", x.count(5), 9);
        due.is("the same in both", x.save(1), 9);
        x.pass(1);
        due.is("slot 1", x.restore(1), 9);
    }

    /** What was saved is a copy: no change, undo or restore reaches it. */
    private static void savedStaysSaved() {
        String text = TWO + ";put 0 0;hang 1;wind 7";
        Twins x = new Twins(due, () -> {
            FlagLaundry y = Due.of(text);
            y.save(0);
            y.restore(0);
            return y;
        });
        for (int times = 1; times <= 3; times++) {
            int rounds = times;
            x.isSame("restored " + times + " times", () -> {
                FlagLaundry y = Due.of(text);
                y.save(0);
                for (int k = 0; k < rounds; k++) {
                    y.wash(0, 3);
                    y.hangAll();
                    y.pass(9);
                    y.addFlag(1, 3, 2, 1);
                    y.undo();
                    y.setWind(2);
                    due.is("restore", y.restore(0), 0);
                }
                return y;
            });
        }
    }

    /** The buffer behind undo and restore; the last text behind load, undo and restore; a save behind undo. */
    private static void whatStays() {
        FlagLaundry x = Due.of(TWO);
        x.save(0);
        Due.type(x, LEAST);
        int bytes = x.buffered();
        x.writeNation(1);
        x.pass(1);
        x.undo();
        due.is("buffered behind undo", x.buffered(), bytes);
        due.isText("the text behind undo", x, 3, "1:4");
        x.pass(3);
        x.save(1);
        x.undo();
        x.restore(0);
        due.is("buffered behind restore", x.buffered(), bytes);
        due.isText("the text behind restore", x, 3, "1:4");
        due.is("saved behind undo", x.restore(1), 3);
        due.is("the bytes are the same", x.load(LEAST.length()), 0);
        due.isText("the text behind load", x, 3, "1:4");
        due.is("colours", x.count(0), 1);
        due.refused("load of nothing", () -> x.load(0));
        due.isText("the text behind an error", x, 3, "1:4");
        due.is("parseError", x.parseError(), 1);
        x.pass(1);
        x.undo();
        x.save(0);
        x.restore(0);
        due.is("parseError stays", x.parseError(), 1);
        due.is("errorPosition stays", x.errorPosition(), 0);
    }
}
