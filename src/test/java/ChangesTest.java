/** Promises 47 to 58, and sections 3 to 6: the changes. */
public final class ChangesTest {
    private static final Due due = new Due();
    private static final String SETUP = "line 2;colour 0;colour 1;colour 4;nation 3 10 4;nation 0 9 0;tub 2;tub 1;";

    public static void main(String[] args) {
        put();
        wash();
        hang();
        hangAll();
        takeDown();
        clearTub();
        iron();
        bleach();
        handOver();
        pass();
        setWind();
        addFlag();
        whatIsRefusedChangesNothing();
        withoutText();
        due.end();
    }

    private static void put() {
        FlagLaundry x = Due.of(SETUP + "flag 0 3 0 0;flag 0 3 0 0;flag 0 3 0 0");
        due.is("put", x.put(2, 0), 1);
        due.is("put", x.put(0, 0), 2);
        due.is("flag 0 is in a tub", x.flag(0, 8), 1);
        due.is("in tub 0", x.flag(0, 9), 0);
        due.refused("put(1, 0)", () -> x.put(1, 0));
        due.refused("put(0, 1)", () -> x.put(0, 1));
        due.is("put", x.put(1, 1), 1);
        due.outOfBounds("put(3, 0)", () -> x.put(3, 0));
        due.outOfBounds("put(-1, 0)", () -> x.put(-1, 0));
        due.outOfBounds("put(0, 2)", () -> x.put(0, 2));
        due.outOfBounds("put(0, -1)", () -> x.put(0, -1));
        due.is("undoable", x.undoable(), 3);
    }

    private static void wash() {
        FlagLaundry x = Due.of(SETUP + "flag 0 3 9 0;flag 0 2 2 1;flag 0 3 9 2");
        due.refused("wash an empty tub", () -> x.wash(0, 0));
        x.put(0, 0);
        x.put(1, 0);
        due.refused("too hot for flag 1", () -> x.wash(0, 3));
        due.refused("wash(0, -1)", () -> x.wash(0, -1));
        due.refused("wash(1, 4)", () -> x.wash(1, 4));
        due.outOfBounds("wash(2, 0)", () -> x.wash(2, 0));
        due.outOfBounds("wash(-1, 4)", () -> x.wash(-1, 4));
        due.is("wash", x.wash(0, 1), 2);
        isFlag(x, 0, 6, 9, 2, 2);
        isFlag(x, 1, 0, 9, 2, 1);
        due.is("in the basket", x.flag(0, 8), 0);
        due.is("the tub is empty", x.tub(0, 1), 0);
        due.is("washes", x.count(13), 1);
        // A stain runs on, and one that a flag has is not got again.
        x.put(0, 0);
        x.put(2, 0);
        due.is("wash", x.wash(0, 3), 1);
        isFlag(x, 0, 0, 9, 6, 2);
        isFlag(x, 2, 2, 9, 4, 3);
        x.put(0, 0);
        x.put(2, 0);
        due.is("wash", x.wash(0, 3), 0);
        isFlag(x, 0, 0, 9, 9, 2);
        isFlag(x, 2, 0, 9, 8, 3);
        x.put(1, 0);
        due.is("wash", x.wash(0, 0), 0);
        isFlag(x, 1, 0, 9, 3, 1);
    }

    private static void isFlag(FlagLaundry x, int f, int dirt, int wet, int crease, int stains) {
        due.is("DIRT of " + f, x.flag(f, 3), dirt);
        due.is("WET of " + f, x.flag(f, 4), wet);
        due.is("CREASE of " + f, x.flag(f, 5), crease);
        due.is("stains of " + f, x.flag(f, 6), stains);
    }

    private static void hang() {
        FlagLaundry x = Due.of(SETUP + "flag 0 3 0 0;flag 0 3 0 0;flag 0 3 0 0;flag 1 3 0 0");
        due.is("hang", x.hang(1), 0);
        due.refused("hang(1)", () -> x.hang(1));
        due.is("hang", x.hang(0), 1);
        due.refused("no peg is free", () -> x.hang(2));
        x.takeDown(1);
        due.is("the first free peg", x.hang(2), 0);
        x.takeDown(0);
        x.put(0, 0);
        due.refused("in a tub", () -> x.hang(0));
        x.handOver(1);
        due.refused("handed over", () -> x.hang(3));
        due.outOfBounds("hang(4)", () -> x.hang(4));
        due.outOfBounds("hang(-1)", () -> x.hang(-1));
    }

    private static void hangAll() {
        FlagLaundry x = Due.of(SETUP + "flag 0 3 0 0;flag 0 3 0 0;flag 0 3 0 0;flag 0 3 0 0");
        due.is("none is wet", x.hangAll(), 0);
        due.is("a change all the same", x.undoable(), 1);
        x.put(3, 0);
        x.put(1, 0);
        x.wash(0, 0);
        x.put(2, 0);
        x.wash(0, 0);
        x.put(2, 0);
        due.is("hangAll", x.hangAll(), 2);
        due.is("peg 0", x.onPeg(0), 1);
        due.is("peg 1", x.onPeg(1), 3);
        x.takeDown(1);
        x.takeDown(2);
        due.is("as long as there are pegs", x.hangAll(), 1);
        due.is("peg 0", x.onPeg(0), 1);
        due.is("no peg", x.hangAll(), 0);
        due.is("flag 2 is in the basket", x.flag(2, 8), 0);
    }

    private static void takeDown() {
        FlagLaundry x = Due.of(SETUP + "flag 0 3 0 0;flag 0 3 0 0;flag 1 3 0 0;put 0 0;wash 0 0;hang 0;pass 2;put 1 0");
        due.is("off the line", x.takeDown(0), 7);
        due.is("the peg is free", x.onPeg(0), -1);
        due.is("in the basket", x.flag(0, 8), 0);
        due.is("nowhere else", x.flag(0, 9), -1);
        due.is("out of a tub", x.takeDown(1), 0);
        due.is("the tub is empty", x.tub(0, 1), 0);
        due.refused("in the basket", () -> x.takeDown(0));
        x.handOver(1);
        due.refused("handed over", () -> x.takeDown(2));
        due.outOfBounds("takeDown(3)", () -> x.takeDown(3));
        due.outOfBounds("takeDown(-1)", () -> x.takeDown(-1));
    }

    private static void clearTub() {
        FlagLaundry x = Due.of(SETUP + "flag 0 3 0 0;flag 0 3 0 0;flag 0 3 0 0;put 2 0;put 1 0;put 0 1");
        due.is("clearTub", x.clearTub(0), 2);
        due.is("clearTub", x.clearTub(0), 0);
        due.is("undoable", x.undoable(), 2);
        due.is("in the basket", x.count(7), 2);
        due.is("in the other tub", x.flag(0, 8), 1);
        due.is("not washed", x.count(13), 0);
        due.outOfBounds("clearTub(2)", () -> x.clearTub(2));
        due.outOfBounds("clearTub(-1)", () -> x.clearTub(-1));
    }

    private static void iron() {
        FlagLaundry x = Due.of(SETUP + "flag 0 3 0 0;flag 0 1 0 0;put 0 0;wash 0 3;put 0 0;wash 0 3;hang 0;pass 6");
        due.refused("on the line", () -> x.iron(0, 0));
        x.takeDown(0);
        due.is("WET 3, HEAT 1", x.iron(0, 1), 8 - 3);
        due.is("WET then", x.flag(0, 4), 2);
        due.is("WET 2, HEAT 0", x.iron(0, 0), 3);
        due.is("WET then", x.flag(0, 4), 2);
        due.is("WET 2, HEAT 3", x.iron(0, 3), 0);
        due.is("WET then", x.flag(0, 4), 0);
        due.is("smooth and dry", x.iron(0, 0), 0);
        due.refused("it does not bear it", () -> x.iron(1, 2));
        due.refused("iron(0, 4)", () -> x.iron(0, 4));
        due.refused("iron(0, -1)", () -> x.iron(0, -1));
        due.outOfBounds("iron(2, 0)", () -> x.iron(2, 0));
        due.outOfBounds("iron(-1, 9)", () -> x.iron(-1, 9));
        due.is("undoable", x.undoable(), 5);
        // Dry: no extra.
        FlagLaundry y = Due.of(SETUP + "flag 0 3 0 0;put 0 0;wash 0 3;hang 0;pass 9");
        y.takeDown(0);
        due.is("dry, HEAT 1", y.iron(0, 1), 2);
        due.is("dry, HEAT 0", y.iron(0, 0), 1);
    }

    private static void bleach() {
        FlagLaundry x = Due.of(SETUP + "flag 0 3 0 0 1;flag 0 2 0 2;put 0 0;put 1 0;wash 0 1");
        due.refused("no stains", () -> x.bleach(0));
        due.is("two stains", x.bleach(1), 2);
        due.is("no stains then", x.flag(1, 6), 0);
        due.is("BLEACHED", x.flag(1, 7), 1);
        due.is("its colours stay", x.flag(1, 1), 4);
        due.refused("no stains", () -> x.bleach(1));
        x.put(0, 0);
        x.put(1, 0);
        due.refused("in a tub", () -> x.bleach(1));
        x.wash(0, 0);
        due.is("one stain", x.bleach(1), 1);
        x.put(0, 0);
        x.put(1, 0);
        x.wash(0, 0);
        due.refused("BLEACHED 2", () -> x.bleach(1));
        due.outOfBounds("bleach(2)", () -> x.bleach(2));
        due.outOfBounds("bleach(-1)", () -> x.bleach(-1));
    }

    private static void handOver() {
        FlagLaundry x = Due.of("line 2;colour 0;nation 3 10 4;nation 0 9 0;nation 0 1 0;nation 1 5 2;tub 1;"
                + "flag 0 3 0 0;flag 1 3 0 0;flag 0 3 1 0;flag 3 0 0 0;pass 4");
        due.refused("flag 2 is dirty", () -> x.handOver(0));
        due.refused("no flags", () -> x.handOver(2));
        due.is("never late", x.handOver(1), 9);
        due.is("EARNED", x.count(11), 9);
        due.is("FINED", x.count(12), 0);
        due.refused("handed over", () -> x.handOver(1));
        due.is("too late for anything", x.handOver(3), 0);
        due.is("EARNED", x.count(11), 9);
        due.is("FINED", x.count(12), 5);
        due.is("by 3 hours", x.nation(3, 6), 3);
        x.put(2, 0);
        x.wash(0, 0);
        x.hang(2);
        x.setWind(6);
        due.is("pass", x.pass(1), 0);
        x.takeDown(2);
        due.is("WET", x.flag(2, 4), 6);
        x.undo();
        due.refused("on the line", () -> x.handOver(0));
        due.outOfBounds("handOver(4)", () -> x.handOver(4));
        due.outOfBounds("handOver(-1)", () -> x.handOver(-1));
        FlagLaundry y = Due.of("line 2;colour 0;nation 3 10 4;tub 1;flag 0 3 0 0;flag 0 3 0 0;flag 0 0 0 0;pass 5");
        due.is("for each flag", y.handOver(0), 6);
        due.is("FINED", y.count(12), 24);
        due.is("handed over", y.count(10), 3);
        due.is("gap", y.gap(), 0);
    }

    private static void pass() {
        FlagLaundry x = Due.of(SETUP + "flag 0 3 9 0;flag 0 3 9 0;flag 0 3 0 0;put 0 0;wash 0 0;put 1 0;wash 0 0;hang 1;hang 0");
        due.is("no wind", x.pass(1), 0);
        due.is("WET", x.flag(1, 4), 8);
        due.is("HOUR", x.count(5), 1);
        x.setWind(2);
        x.pass(1);
        due.is("WIND 2", x.flag(1, 4), 7);
        x.setWind(3);
        x.pass(1);
        due.is("WIND 3", x.flag(1, 4), 5);
        x.setWind(6);
        due.is("WIND 6 takes none", x.pass(1), 0);
        due.is("WIND 6", x.flag(1, 4), 2);
        x.undo();
        x.setWind(7);
        due.is("WIND 7 takes one", x.pass(1), 1);
        due.is("that on the last peg", x.flag(0, 8), 0);
        due.is("it dried before", x.flag(0, 4), 2);
        due.is("it is dirty", x.flag(0, 3), 9);
        due.is("the other one hangs", x.onPeg(0), 1);
        x.setWind(9);
        due.is("one is left", x.pass(50), 1);
        due.is("dry", x.flag(1, 4), 0);
        due.is("it is dirty, up to 9", x.flag(1, 3), 9);
        due.is("those in the basket do not dry", x.flag(0, 4), 2);
        due.is("falls", x.count(14), 2);
        due.is("HOUR", x.count(5), 54);
        x.hang(2);
        x.pass(1);
        due.is("it was clean", x.flag(2, 3), 1);
        due.refused("pass(0)", () -> x.pass(0));
        due.refused("pass(51)", () -> x.pass(51));
        due.refused("pass(-1)", () -> x.pass(-1));
    }

    private static void setWind() {
        FlagLaundry x = Due.of(SETUP + "wind 4");
        due.is("setWind", x.setWind(9), 4);
        due.is("setWind", x.setWind(0), 9);
        due.is("WIND", x.count(6), 0);
        due.is("the same is a change", x.setWind(0), 0);
        due.is("undoable", x.undoable(), 3);
        due.refused("setWind(10)", () -> x.setWind(10));
        due.refused("setWind(-1)", () -> x.setWind(-1));
    }

    private static void addFlag() {
        FlagLaundry x = Due.of(SETUP + "flag 1 0 0 0");
        due.is("addFlag", x.addFlag(0, 7, 3, 9), 1);
        due.is("addFlag", x.addFlag(1, 4, 0, 0), 2);
        int[] want = {0, 7, 3, 9, 0, 0, 0, 0, 0, -1};
        for (int what = 0; what < want.length; what++) {
            due.is("flag(1, " + what + ")", x.flag(1, what), want[what]);
        }
        due.refused("no colour", () -> x.addFlag(0, 0, 0, 0));
        due.refused("a colour that is not", () -> x.addFlag(0, 8, 0, 0));
        due.refused("a colour that is not", () -> x.addFlag(0, 9, 0, 0));
        due.refused("colours below 0", () -> x.addFlag(0, -1, 0, 0));
        due.refused("colours below 0", () -> x.addFlag(0, Integer.MIN_VALUE, 0, 0));
        due.refused("CARE 4", () -> x.addFlag(0, 1, 4, 0));
        due.refused("CARE -1", () -> x.addFlag(0, 1, -1, 0));
        due.refused("DIRT 10", () -> x.addFlag(0, 1, 0, 10));
        due.refused("DIRT -1", () -> x.addFlag(0, 1, 0, -1));
        due.outOfBounds("addFlag(2, ..)", () -> x.addFlag(2, 0, 9, 99));
        due.outOfBounds("addFlag(-1, ..)", () -> x.addFlag(-1, 1, 0, 0));
        x.handOver(1);
        due.refused("handed over", () -> x.addFlag(1, 1, 0, 0));
        for (int f = 3; f < 12; f++) {
            due.is("addFlag", x.addFlag(0, 1, 0, 0), f);
        }
        due.refused("a 13th", () -> x.addFlag(0, 1, 0, 0));
        due.is("flags", x.count(4), 12);
        x.undo();
        due.is("flags", x.count(4), 11);
        due.outOfBounds("flag(11, 0)", () -> x.flag(11, 0));
        due.is("addFlag", x.addFlag(0, 2, 1, 3), 11);
        due.is("colours", x.flag(11, 1), 2);
    }

    private static void whatIsRefusedChangesNothing() {
        FlagLaundry x = Due.of(SETUP + "flag 0 2 9 0;flag 0 3 9 1;put 0 0");
        due.refused("put", () -> x.put(0, 1));
        due.refused("wash", () -> x.wash(0, 3));
        due.refused("hang", () -> x.hang(0));
        due.refused("takeDown", () -> x.takeDown(1));
        due.refused("iron", () -> x.iron(0, 0));
        due.refused("bleach", () -> x.bleach(1));
        due.refused("handOver", () -> x.handOver(0));
        due.refused("pass", () -> x.pass(0));
        due.refused("setWind", () -> x.setWind(11));
        due.refused("addFlag", () -> x.addFlag(0, 1, 0, 10));
        due.outOfBounds("clearTub", () -> x.clearTub(7));
        due.is("undoable", x.undoable(), 0);
        due.isText("writeFlag(0)", x, x.writeFlag(0), "t900");
        due.isText("writeFlag(1)", x, x.writeFlag(1), "b900");
        due.isText("writeTub(0)", x, x.writeTub(0), "0");
    }

    private static void withoutText() {
        FlagLaundry x = new FlagLaundry();
        due.noText("put", () -> x.put(0, 0));
        due.noText("wash", () -> x.wash(0, 9));
        due.noText("hang", () -> x.hang(0));
        due.noText("hangAll", x::hangAll);
        due.noText("takeDown", () -> x.takeDown(0));
        due.noText("clearTub", () -> x.clearTub(0));
        due.noText("iron", () -> x.iron(0, 9));
        due.noText("bleach", () -> x.bleach(0));
        due.noText("handOver", () -> x.handOver(0));
        due.noText("pass", () -> x.pass(0));
        due.noText("setWind", () -> x.setWind(10));
        due.noText("addFlag", () -> x.addFlag(0, 0, 0, 0));
    }
}
