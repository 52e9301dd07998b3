/** Promises 59 to 62, and section 8: undo, save and restore. */
public final class HistoryTest {
    private static final Due due = new Due();
    private static final String TEXT = "line 2;colour 0;colour 1;colour 4;nation 3 10 4;nation 0 9 0;tub 2;tub 1;"
            + "flag 0 3 9 0;flag 0 3 2 1;flag 1 3 0 2";

    public static void main(String[] args) {
        undo();
        eightAreKept();
        undoBringsBackAll();
        save();
        restore();
        withoutText();
        due.end();
    }

    private static void undo() {
        FlagLaundry x = Due.of(TEXT);
        due.noneThere("undo", x::undo);
        x.setWind(1);
        x.setWind(2);
        x.setWind(3);
        due.is("undoable", x.undoable(), 3);
        due.is("undo", x.undo(), 2);
        due.is("WIND", x.count(6), 2);
        due.is("undo", x.undo(), 1);
        due.is("WIND", x.count(6), 1);
        x.setWind(5);
        due.is("undoable", x.undoable(), 2);
        due.is("undo", x.undo(), 1);
        due.is("WIND", x.count(6), 1);
        due.is("undo", x.undo(), 0);
        due.is("WIND", x.count(6), 0);
        due.noneThere("undo", x::undo);
        due.is("undoable", x.undoable(), 0);
    }

    private static void eightAreKept() {
        FlagLaundry x = Due.of(TEXT);
        for (int hours = 1; hours <= 20; hours++) {
            x.pass(hours);
            due.is("undoable", x.undoable(), Math.min(hours, 8));
        }
        int hour = 210;
        for (int left = 7; left >= 4; left--) {
            due.is("undo", x.undo(), left);
            hour -= 13 + left;
            due.is("HOUR", x.count(5), hour);
        }
        x.setWind(1);
        x.setWind(2);
        due.is("undoable", x.undoable(), 6);
        for (int left = 5; left >= 0; left--) {
            due.is("undo", x.undo(), left);
        }
        due.is("HOUR, 12 of the changes are left", x.count(5), 78);
        due.noneThere("undo", x::undo);
    }

    private static void undoBringsBackAll() {
        String text = TEXT + ";put 0 0;put 1 0;wash 0 0;hang 0;put 1 1";
        FlagLaundry x = Due.of(text);
        String before = Snapshot.brief(x);
        x.handOver(1);
        x.takeDown(1);
        x.setWind(9);
        x.pass(3);
        x.bleach(1);
        x.addFlag(0, 5, 1, 1);
        x.put(3, 1);
        x.wash(1, 1);
        for (int left = 7; left >= 0; left--) {
            due.is("undo", x.undo(), left);
        }
        due.isTrue("undo did not bring back all", Snapshot.brief(x).equals(before));
        // Each of the changes alone.
        Twins twins = Twins.lived(due, text);
        twins.isUndone("put", y -> y.put(2, 0));
        twins.isUndone("wash", y -> y.wash(1, 3));
        twins.isUndone("hang", y -> y.hang(2));
        twins.isUndone("hangAll", FlagLaundry::hangAll);
        twins.isUndone("takeDown off the line", y -> y.takeDown(0));
        twins.isUndone("takeDown out of a tub", y -> y.takeDown(1));
        twins.isUndone("clearTub", y -> y.clearTub(1));
        twins.isUndone("iron", y -> y.iron(2, 1));
        twins.isUndone("handOver", y -> y.handOver(1));
        twins.isUndone("pass", y -> y.pass(50));
        twins.isUndone("setWind", y -> y.setWind(9));
        twins.isUndone("addFlag", y -> y.addFlag(0, 1, 1, 1));
        Twins stained = Twins.lived(due, TEXT + ";put 0 0;put 1 0;wash 0 0");
        stained.isUndone("bleach", y -> y.bleach(1));
        stained.isUndone("hangAll", FlagLaundry::hangAll);
    }

    private static void save() {
        FlagLaundry x = Due.of(TEXT);
        x.pass(4);
        due.is("save", x.save(0), 4);
        due.is("no change", x.undoable(), 1);
        x.pass(3);
        due.is("save", x.save(1), 7);
        due.is("in place of it", x.save(0), 7);
        x.pass(1);
        due.is("restore", x.restore(0), 7);
        due.outOfBounds("save(2)", () -> x.save(2));
        due.outOfBounds("save(-1)", () -> x.save(-1));
    }

    private static void restore() {
        FlagLaundry x = Due.of(TEXT);
        due.noneThere("restore", () -> x.restore(0));
        due.noneThere("restore", () -> x.restore(1));
        due.outOfBounds("restore(2)", () -> x.restore(2));
        due.outOfBounds("restore(-1)", () -> x.restore(-1));
        x.put(1, 0);
        x.put(0, 0);
        x.pass(2);
        String before = Snapshot.brief(x);
        x.save(1);
        due.noneThere("restore the other", () -> x.restore(0));
        x.wash(0, 3);
        x.addFlag(1, 1, 1, 1);
        x.pass(3);
        x.append(1, 2, 3, 4, 5);
        due.is("restore", x.restore(1), 2);
        due.isTrue("restore did not bring back all", Snapshot.brief(x).equals(before));
        due.is("undoable", x.undoable(), 0);
        due.noneThere("undo", x::undo);
        due.is("the buffer stays", x.buffered(), 20);
        x.wash(0, 0);
        x.undo();
        due.isTrue("undo did not bring back all", Snapshot.brief(x).equals(before));
        x.pass(9);
        due.is("it stays saved", x.restore(1), 2);
        due.isTrue("restore did not bring back all", Snapshot.brief(x).equals(before));
        // What was saved is no part of the state.
        x.pass(1);
        x.save(0);
        x.undo();
        due.is("saved behind undo", x.restore(0), 3);
    }

    private static void withoutText() {
        FlagLaundry x = new FlagLaundry();
        due.noText("save(0)", () -> x.save(0));
        due.noText("save(2)", () -> x.save(2));
        due.noneThere("restore(0)", () -> x.restore(0));
        due.outOfBounds("restore(2)", () -> x.restore(2));
        due.noneThere("undo", x::undo);
        due.is("undoable", x.undoable(), 0);
    }
}
