/** Promises 1 to 6, and sections 1 and 7: a new object, the buffer, and what texts are read. */
public final class InputTest {
    private static final Due due = new Due();
    private static final String WHOLE = "line 2;colour 1;colour 4;nation 5 20 3;tub 2";
    private static final String SETUP = WHOLE + ";";

    public static void main(String[] args) {
        newObject();
        append();
        load();
        whatStaysBehindLoad();
        tokens();
        grammar();
        bounds();
        tooMany();
        refusals();
        commands();
        due.end();
    }

    private static void newObject() {
        FlagLaundry x = new FlagLaundry();
        due.is("buffered", x.buffered(), 0);
        due.is("parseError", x.parseError(), 0);
        due.is("errorPosition", x.errorPosition(), -1);
        due.is("undoable", x.undoable(), 0);
        due.is("NONE", FlagLaundry.NONE, -1);
        due.noText("count", () -> x.count(0));
        due.noText("count", () -> x.count(99));
        due.noText("save", () -> x.save(5));
        due.noText("addFlag", () -> x.addFlag(9, 0, 9, 9));
        due.noneThere("undo", x::undo);
        due.outOfBounds("textByte", () -> x.textByte(0));
    }

    private static void append() {
        FlagLaundry x = new FlagLaundry();
        for (int calls = 1; calls <= 25; calls++) {
            due.is("append " + calls, x.append(-1, Integer.MIN_VALUE, 0, 7, 255), 20 * calls);
        }
        due.is("a 26th append", x.append(0, 0, 0, 0, 0), FlagLaundry.NONE);
        due.is("buffered", x.buffered(), 500);
        due.outOfBounds("load(501)", () -> x.load(501));
        due.is("buffered", x.buffered(), 500);
        due.refused("load(500)", () -> x.load(500));
        fullBuffer("wind 9", 0);
        fullBuffer("wind", 1);
        fullBuffer(";", 1);
        // "line", " 1;c", "olou", "r 0;" ...: the most significant byte comes first.
        FlagLaundry y = new FlagLaundry();
        y.append(0x6c696e65, 0x20313b63, 0x6f6c6f75, 0x7220303b, 0x6e617469);
        y.append(0x6f6e2030, 0x20312030, 0x3b747562, 0x20312020, 0x20202020);
        due.is("load", y.load(34), 0);
        due.is("buffered", y.buffered(), 0);
    }

    /** A text of 500 bytes that ends with that. */
    private static void fullBuffer(String end, int code) {
        StringBuilder text = new StringBuilder(WHOLE).append(';');
        while (text.length() < 500 - end.length()) {
            text.append(' ');
        }
        text.append(end);
        if (code == 0) {
            right(text.toString(), 0);
        } else {
            wrong(text.toString(), code, end.equals(";") ? 499 : 500);
        }
    }

    private static void load() {
        FlagLaundry x = new FlagLaundry();
        Due.type(x, SETUP + "flag 0 2 5 0");
        int bytes = x.buffered();
        due.outOfBounds("load(-1)", () -> x.load(-1));
        due.outOfBounds("load", () -> x.load(bytes + 1));
        due.outOfBounds("load", () -> x.load(Integer.MIN_VALUE));
        due.is("buffered", x.buffered(), bytes);
        due.is("load of all bytes", x.load(bytes), 1);
        due.is("buffered", x.buffered(), 0);
        due.is("parseError", x.parseError(), 0);
        due.is("errorPosition", x.errorPosition(), -1);
        due.is("load of another one", Due.load(x, SETUP + "flag 0 0 0 0;flag 0 0 0 1"), 2);
        due.is("count(4)", x.count(4), 2);
        // Bytes behind the first n do not matter, and are gone.
        Due.type(x, SETUP + "flag 0 2 5 0;nonsense");
        due.is("load of a part", x.load(SETUP.length() + 12), 1);
        due.is("buffered", x.buffered(), 0);
    }

    private static void whatStaysBehindLoad() {
        FlagLaundry x = Due.of(SETUP + "flag 0 2 5 0");
        x.setWind(4);
        x.save(0);
        x.save(1);
        x.pass(2);
        x.writeFlag(0);
        error(x, "line 1;colour 1;nation 0 1 0;tub 1;flag 0 0 0 0;wind 8;pass 9;wind x", 1, 67);
        due.is("count(5)", x.count(5), 2);
        due.is("count(6)", x.count(6), 4);
        due.is("count(3)", x.count(3), 2);
        due.is("undoable", x.undoable(), 2);
        due.is("buffered", x.buffered(), 0);
        due.outOfBounds("load(1)", () -> x.load(1));
        due.is("parseError", x.parseError(), 1);
        due.is("errorPosition", x.errorPosition(), 67);
        due.is("undo", x.undo(), 1);
        due.is("restore", x.restore(1), 0);
        x.setWind(5);
        due.is("load", Due.load(x, WHOLE), 0);
        due.is("undoable", x.undoable(), 0);
        due.is("count(6)", x.count(6), 0);
        due.noneThere("restore(0)", () -> x.restore(0));
        due.noneThere("restore(1)", () -> x.restore(1));
        due.is("the text stays", x.textByte(0), 'b');
    }

    private static void tokens() {
        right("  line  2 ;colour1;colour 04;nation 00 1 0;tub6  ;  flag 0 0 09 1  0  ", 1);
        right("line2;colour0;nation99 99 9;tub 6;pass50;wind9", 0);
        wrong("", 1, 0);
        wrong("   ", 1, 3);
        wrong("Line 1", 1, 0);
        wrong("lines 1", 1, 0);
        wrong("linez 1", 1, 0);
        wrong("mine 1", 1, 0);
        wrong("line\t1", 1, 4);
        wrong("line 1\n", 1, 6);
        wrong("line \u00e9", 1, 5);
        wrong("line 001", 1, 5);
        wrong("line 1x", 1, 6);
        wrong("line 1 2", 1, 7);
        wrong("line 9x", 2, 5);
        wrong("line 1;colourx 1", 1, 7);
        wrong("line 1;col our 1", 1, 7);
        wrong("line 1;colour 1;abcdefghijklmnopqrstuvwxyz", 1, 16);
        wrong("line 1;colour 0123", 1, 14);
    }

    private static void grammar() {
        wrong("line", 1, 4);
        wrong("line ", 1, 5);
        wrong("line;", 1, 4);
        wrong("2 line", 1, 0);
        wrong("colour 1", 1, 0);
        wrong("line 1;", 1, 7);
        wrong("line 1;;", 1, 7);
        wrong("line 1;line 1", 1, 7);
        wrong("line 1;3", 1, 7);
        wrong("line 1 colour 1", 1, 7);
        wrong("line 1;colour", 1, 13);
        wrong("line 1;colour 1 1", 1, 16);
        wrong("line 1;nation 1 1", 1, 17);
        wrong("line 1;nation 1;", 1, 15);
        right(SETUP + "flag 0 1 1 0", 1);
        right(WHOLE, 0);
        right(WHOLE + " ", 0);
        wrong(SETUP, 1, SETUP.length());
        wrong(SETUP + "flag 0 1 1", 1, SETUP.length() + 10);
        wrong(SETUP + "flag 0 1 1;", 1, SETUP.length() + 10);
        wrong(SETUP + "flag 0 1 1 0 put", 1, SETUP.length() + 13);
        wrong(SETUP + "flag 0 1 1 0;put 0", 1, SETUP.length() + 18);
        wrong(SETUP + "flag 0 1 1 0;put put", 1, SETUP.length() + 17);
        wrong(SETUP + "flag 0 1 1 0;hang", 1, SETUP.length() + 17);
        wrong(SETUP + "flag 0 1 1 0;wash", 1, SETUP.length() + 17);
        wrong(SETUP + "bleach 0", 1, SETUP.length());
        right(SETUP + "pass 1 ", 0);
    }

    private static void bounds() {
        wrong("line 0", 2, 5);
        wrong("line 9", 2, 5);
        right("line 8;colour 0;nation 0 1 0;tub 1", 0);
        wrong("line 8;colour 5", 2, 14);
        right("line 1;colour 4;nation 99 99 9;tub 6", 0);
        wrong("line 8;nation 0 0", 2, 16);
        wrong("line 8;nation 0 1 10", 2, 18);
        wrong("line 8;tub 0", 2, 11);
        wrong("line 8;tub 7", 2, 11);
        wrong("line 8;flag 0", 2, 12);
        wrong("line 8;nation 0 1 1;flag 0 0 0 0", 2, 31);
        wrong("line 8;put 0", 2, 11);
        wrong("line 8;hang 0", 2, 12);
        wrong("line 8;wash 0", 2, 12);
        wrong(SETUP + "flag 1", 2, SETUP.length() + 5);
        wrong(SETUP + "flag 0 4", 2, SETUP.length() + 7);
        wrong(SETUP + "flag 0 3 10", 2, SETUP.length() + 9);
        wrong(SETUP + "flag 0 3 9 2", 2, SETUP.length() + 11);
        wrong(SETUP + "flag 0 3 9 0 2", 2, SETUP.length() + 13);
        wrong(SETUP + "flag 0 3 9 0;put 0 1", 2, SETUP.length() + 19);
        wrong(SETUP + "flag 0 3 9 0;put 1 0", 2, SETUP.length() + 17);
        wrong(SETUP + "flag 0 3 9 0;put 0 0;wash 0 4", 2, SETUP.length() + 28);
        wrong(SETUP + "wash 0 4", 2, SETUP.length() + 7);
        wrong(SETUP + "wash 1 0", 2, SETUP.length() + 5);
        wrong(SETUP + "wind 10", 2, SETUP.length() + 5);
        wrong(SETUP + "pass 0", 2, SETUP.length() + 5);
        wrong(SETUP + "pass 51", 2, SETUP.length() + 5);
    }

    private static void tooMany() {
        String six = "line 1;colour 0;colour 0;colour 0;colour 0;colour 0;colour 0;";
        right(six + "nation 0 1 0;tub 1;flag 0 0 0 0 1 2 3 4 5", 1);
        wrong(six + "colour", 4, six.length());
        wrong(six + "colour 9", 4, six.length());
        wrong(six + "colours 9", 1, six.length());
        wrong(six + "nation 0 1 0;tub 1;flag 0 0 0 0 1 2 3 4 5 0", 3, six.length() + 42);
        wrong(six + "nation 0 1 0;tub 1;flag 0 0 0 0 1 2 3 4 5 6", 2, six.length() + 42);
        String nations = "line 1;nation 0 1 0;nation 0 1 0;nation 0 1 0;nation 0 1 0;";
        right(nations + "colour 0;tub 1", 0);
        wrong(nations + "nation 0 1 0", 4, nations.length());
        String tubs = "line 1;tub 1;tub 1;tub 1;";
        right(tubs + "colour 0;nation 0 1 0", 0);
        wrong(tubs + "tub 1", 4, tubs.length());
        StringBuilder twelve = new StringBuilder("line 1;colour 0;nation 0 1 0;tub 1;");
        for (int f = 0; f < 12; f++) {
            twelve.append("flag 0 0 0 0;");
        }
        right(twelve + "wind 1", 12);
        wrong(twelve + "flag 0 0 0 0", 4, twelve.length());
        wrong("line 1", 4, 6);
        wrong("line 1  ", 4, 8);
        wrong("line 1;nation 0 1 0;tub 1", 4, 25);
        wrong("line 1;colour 0;tub 1", 4, 21);
        wrong("line 1;colour 0;nation 0 1 0", 4, 28);
        wrong("line 1;colour 0;nation 0 1 0;", 1, 29);
    }

    private static void refusals() {
        String flags = SETUP + "flag 0 2 5 0;flag 0 0 0 1;flag 0 1 1 0;";
        int at = flags.length();
        wrong(SETUP + "flag 0 2 5 1 1", 3, SETUP.length() + 13);
        wrong(SETUP + "flag 0 2 5 1 0 01;wind 1", 3, SETUP.length() + 15);
        wrong(flags + "put 0 0;put 0 0", 3, at + 14);
        wrong(flags + "put 0 0;put 1 0;put 2 0", 3, at + 22);
        wrong(flags + "wash 0 0", 3, at + 7);
        wrong(flags + "put 0 0;wash 0 3", 3, at + 15);
        wrong(flags + "put 0 0;hang 0", 3, at + 13);
        wrong(flags + "hang 0;hang 0", 3, at + 12);
        wrong(flags + "hang 0;hang 1;hang 2", 3, at + 19);
        wrong(flags + "hang 0;put 0 0", 3, at + 13);
    }

    private static void commands() {
        FlagLaundry x = Due.of(SETUP + "flag 0 2 5 0;flag 0 2 0 1;put 1 0;put 0 0;wash 0 1;hang 1;"
                + "wind 8;pass 1;hang 0;wind 3;pass 2");
        due.is("washes", x.count(13), 1);
        due.is("stains of flag 1", x.flag(1, 6), 1);
        due.is("stains of flag 0", x.flag(0, 6), 0);
        due.is("falls", x.count(14), 1);
        due.is("HOUR", x.count(5), 3);
        due.is("WIND", x.count(6), 3);
        due.is("WET of flag 1", x.flag(1, 4), 6);
        due.is("WET of flag 0", x.flag(0, 4), 5);
        due.is("DIRT of flag 0", x.flag(0, 3), 2);
        due.is("DIRT of flag 1", x.flag(1, 3), 1);
        due.is("peg 0", x.onPeg(0), 0);
        due.is("undoable", x.undoable(), 0);
        // What a line tells can stand behind those that use others of its kind.
        right("line 1;tub 1;colour 0;nation 0 1 0;flag 0 0 0 0;colour 1;flag 0 0 0 1;tub 1;put 1 1", 2);
    }

    private static void right(String text, int flags) {
        FlagLaundry x = new FlagLaundry();
        Due.type(x, text);
        try {
            due.is(text, x.load(text.length()), flags);
        } catch (IllegalArgumentException e) {
            due.isTrue(text + " had error " + x.parseError() + " at " + x.errorPosition(), false);
        }
        due.is(text + " parseError", x.parseError(), 0);
        due.is(text + " errorPosition", x.errorPosition(), -1);
    }

    private static void wrong(String text, int code, int position) {
        error(new FlagLaundry(), text, code, position);
    }

    private static void error(FlagLaundry x, String text, int code, int position) {
        Due.type(x, text);
        due.refused(text, () -> x.load(text.length()));
        due.is(text + " parseError", x.parseError(), code);
        due.is(text + " errorPosition", x.errorPosition(), position);
        due.is(text + " buffered", x.buffered(), 0);
    }
}
