/** Promises 40 to 46: quotients, and the texts that are written. */
public final class TextTest {
    private static final Due due = new Due();
    private static final String SETUP = "line 3;colour 0;colour 1;colour 4;nation 0 9 0;nation 5 9 1;nation 0 1 0;tub 6;tub 2";

    public static void main(String[] args) {
        quotients();
        flagText();
        tubText();
        nationText();
        lineText();
        textByte();
        longest();
        withoutText();
        due.end();
    }

    private static void quotients() {
        FlagLaundry x = Due.of(SETUP);
        due.is("readyShare without flags", x.readyShare(), 0.0f);
        due.is("meanDirt without flags", x.meanDirt(), 0.0);
        x.addFlag(0, 1, 3, 0);
        x.addFlag(1, 1, 3, 4);
        x.addFlag(1, 1, 3, 9);
        due.is("readyShare", x.readyShare(), 1.0f / 3.0f);
        due.is("meanDirt", x.meanDirt(), 13.0 / 3.0);
        x.handOver(0);
        due.is("readyShare, handed over", x.readyShare(), 1.0f / 3.0f);
        x.put(1, 0);
        x.wash(0, 1);
        due.is("meanDirt", x.meanDirt(), 10.0 / 3.0);
        x.addFlag(2, 2, 0, 0);
        due.is("readyShare", x.readyShare(), 0.5f);
        due.is("meanDirt", x.meanDirt(), 2.5);
    }

    private static void flagText() {
        FlagLaundry x = Due.of(SETUP + ";flag 0 3 7 2;flag 0 3 9 1;flag 0 3 0 0");
        due.isText("writeFlag", x, x.writeFlag(0), "b700");
        x.put(0, 0);
        due.isText("writeFlag", x, x.writeFlag(0), "t700");
        x.put(1, 0);
        x.put(2, 0);
        x.wash(0, 1);
        due.isText("writeFlag", x, x.writeFlag(0), "b492+0+1");
        due.isText("writeFlag", x, x.writeFlag(1), "b692+0");
        x.hang(0);
        due.isText("writeFlag", x, x.writeFlag(0), "l492+0+1");
        FlagLaundry y = Due.of(SETUP + ";flag 0 3 0 0");
        y.handOver(0);
        due.isText("writeFlag", y, y.writeFlag(0), "g000");
        due.outOfBounds("writeFlag(1)", () -> y.writeFlag(1));
        due.outOfBounds("writeFlag(-1)", () -> y.writeFlag(-1));
        due.isText("the text stays", y, 4, "g000");
    }

    private static void tubText() {
        FlagLaundry x = Due.of(SETUP + ";flag 0 3 7 2;flag 0 3 9 1;flag 0 3 0 0");
        due.isText("writeTub", x, x.writeTub(0), "-");
        x.put(2, 0);
        due.isText("writeTub", x, x.writeTub(0), "2");
        x.put(0, 0);
        x.put(1, 0);
        due.isText("writeTub", x, x.writeTub(0), "2,0,1");
        x.takeDown(0);
        due.isText("writeTub", x, x.writeTub(0), "2,1");
        x.put(0, 0);
        due.isText("writeTub", x, x.writeTub(0), "2,1,0");
        due.isText("writeTub", x, x.writeTub(1), "-");
        due.outOfBounds("writeTub(2)", () -> x.writeTub(2));
        due.outOfBounds("writeTub(-1)", () -> x.writeTub(-1));
    }

    private static void nationText() {
        FlagLaundry x = Due.of(SETUP + ";flag 0 3 7 2;flag 1 3 9 1;flag 0 3 0 0;flag 0 3 0 0;flag 0 3 0 0");
        x.put(3, 0);
        x.hang(4);
        due.isText("writeNation", x, x.writeNation(0), "0:4 2:0 3:2 4:3");
        due.isText("writeNation", x, x.writeNation(1), "1:4");
        due.isText("writeNation", x, x.writeNation(2), "-");
        due.outOfBounds("writeNation(3)", () -> x.writeNation(3));
        due.outOfBounds("writeNation(-1)", () -> x.writeNation(-1));
    }

    private static void lineText() {
        FlagLaundry x = Due.of(SETUP + ";flag 0 3 7 2;flag 1 3 9 1;flag 0 3 0 0");
        due.isText("writeLine", x, x.writeLine(), "././.");
        x.hang(2);
        x.hang(0);
        x.hang(1);
        due.isText("writeLine", x, x.writeLine(), "2/0/1");
        x.takeDown(0);
        due.isText("writeLine", x, x.writeLine(), "2/./1");
        FlagLaundry y = Due.of("line 1;colour 0;nation 0 1 0;tub 1");
        due.isText("writeLine", y, y.writeLine(), ".");
    }

    private static void textByte() {
        FlagLaundry x = Due.of(SETUP + ";flag 0 3 7 2;flag 1 3 9 1");
        due.outOfBounds("before the first text", () -> x.textByte(0));
        x.writeNation(0);
        due.is("textByte", x.textByte(1), ':');
        due.outOfBounds("textByte(3)", () -> x.textByte(3));
        due.outOfBounds("textByte(-1)", () -> x.textByte(-1));
        x.setWind(9);
        x.save(0);
        x.hang(0);
        x.writeLine();
        x.undo();
        due.isText("behind undo", x, 5, "0/./.");
        x.restore(0);
        due.isText("behind restore", x, 5, "0/./.");
        Due.load(x, SETUP);
        due.isText("behind load", x, 5, "0/./.");
        x.writeTub(0);
        due.isText("a shorter one", x, 1, "-");
    }

    private static void longest() {
        StringBuilder text = new StringBuilder("line 8;colour 0;nation 0 1 0;tub 6");
        for (int f = 0; f < 12; f++) {
            text.append(";flag 0 3 1 0");
        }
        FlagLaundry x = Due.of(text.toString());
        due.isText("writeNation", x, x.writeNation(0),
                "0:4 1:4 2:4 3:4 4:4 5:4 6:4 7:4 8:4 9:4 10:4 11:4");
        for (int f = 11; f >= 6; f--) {
            x.put(f, 0);
        }
        due.isText("writeTub", x, x.writeTub(0), "11,10,9,8,7,6");
        x.clearTub(0);
        for (int f = 11; f >= 4; f--) {
            x.hang(f);
        }
        due.isText("writeLine", x, x.writeLine(), "11/10/9/8/7/6/5/4");
        FlagLaundry y = Due.of("line 8;colour 0;colour 0;colour 0;colour 0;colour 0;colour 0;nation 0 1 0;tub 2;"
                + "flag 0 0 1 5;flag 0 0 1 0 1 2 3 4;put 0 0;put 1 0;wash 0 0");
        due.isText("writeFlag", y, y.writeFlag(0), "b091+0+1+2+3+4");
        due.isText("writeFlag", y, y.writeFlag(1), "b091+5");
    }

    private static void withoutText() {
        FlagLaundry x = new FlagLaundry();
        due.noText("readyShare", x::readyShare);
        due.noText("meanDirt", x::meanDirt);
        due.noText("writeFlag", () -> x.writeFlag(0));
        due.noText("writeTub", () -> x.writeTub(0));
        due.noText("writeNation", () -> x.writeNation(0));
        due.noText("writeLine", x::writeLine);
    }
}
