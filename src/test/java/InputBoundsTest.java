/** Promises 1 to 6, and section 7: the bounds of the buffer, of what a text may tell, and the codes of its errors. */
public final class InputBoundsTest {
    private static final Due due = new Due();
    private static final String LEAST = "line 1;colour 0;nation 0 1 0;tub 1";
    private static final String GREATEST = "line 8;colour 0;colour 1;colour 2;colour 3;colour 4;colour 0;"
            + "nation 0 1 0;nation 99 99 9;nation 5 20 3;nation 1 9 9;tub 6;tub 2;tub 1";
    /** Two flags, one of which bears nothing hot. */
    private static final String FLAGS = LEAST + ";flag 0 3 9 0;flag 0 0 0 0";

    public static void main(String[] args) {
        appendUpTo500();
        bytesInOrder();
        eachByte();
        loadOfSomeBytes();
        loadOfPartsOfTokens();
        loadLeavesAll();
        errorOfTheLatestLoad();
        loadReplacesAll();
        loadForgetsAll();
        eachPrefix();
        runsOfLettersAndDigits();
        blanks();
        linesThatAreNotComplete();
        linesThatGoOn();
        numbersInBounds();
        numbersOfWhatWasToldAhead();
        tooMany();
        tooFew();
        refused();
        smallestCode();
        firstToken();
        due.end();
    }

    // Promises 2 and 6

    private static void appendUpTo500() {
        FlagLaundry x = new FlagLaundry();
        due.is("buffered", x.buffered(), 0);
        String text = LEAST + " ".repeat(499 - LEAST.length()) + "?";
        for (int round = 1; round <= 2; round++) {
            Due.type(x, text.substring(0, 480));
            due.is("buffered", x.buffered(), 480);
            due.is("the 25th append", x.append(0x20202020, 0x20202020, 0x20202020, 0x20202020, 0x2020203f), 500);
            due.is("buffered", x.buffered(), 500);
            // What is not appended changes no byte, neither the first ones nor the last ones.
            due.is("the 26th append", x.append(0, 0, 0, 0, 0), -1);
            due.is("the 27th append", x.append(-1, -1, -1, -1, -1), -1);
            due.is("buffered", x.buffered(), 500);
            due.refused("load(500)", () -> x.load(500));
            due.is("parseError", x.parseError(), 1);
            due.is("errorPosition", x.errorPosition(), 499);
            due.is("buffered", x.buffered(), 0);
        }
        Due.type(x, text);
        due.is("load(499)", x.load(499), 0);
        due.is("buffered", x.buffered(), 0);
        due.is("the first append then", x.append(0, 0, 0, 0, 0), 20);
    }

    private static void bytesInOrder() {
        for (int at = 0; at < 20; at++) {
            FlagLaundry x = new FlagLaundry();
            int[] words = new int[5];
            java.util.Arrays.fill(words, 0x20202020);
            words[at / 4] = new int[] {0x21202020, 0x20212020, 0x20202120, 0x20202021}[at % 4];
            x.append(words[0], words[1], words[2], words[3], words[4]);
            isWrong(x, "byte " + at, 20, 1, at);
        }
    }

    /** Each byte behind a blank, a digit, a letter and nothing; those above 127 are no letters. */
    private static void eachByte() {
        for (char c = 0; c <= 255; c++) {
            boolean digit = c >= '0' && c <= '9';
            boolean letter = c >= 'a' && c <= 'z';
            if (c == ' ') {
                wrong("line 1 ", 4, 7);
                wrong(" ", 1, 1);
                right(" line 1 ;" + LEAST.substring(7) + " ", 0);
                continue;
            }
            wrong("" + c, 1, 0);
            wrong(c + "line 1", 1, 0);
            wrong("line 1 " + c, 1, c == ';' ? 8 : 7);
            wrong("line 1" + c, digit ? 2 : 1, digit ? 5 : c == ';' ? 7 : 6);
            // Behind letters, a letter makes the word another one, and a digit begins a number of two digits.
            wrong("line" + c + "9", digit ? 2 : 1, letter ? 0 : 4);
            if (digit && c <= '4') {
                right("line 1;colour 0" + c + LEAST.substring(15), 0);
            } else {
                wrong("line 1;colour 0" + c + "?", digit ? 2 : 1, digit ? 14 : c == ';' ? 16 : 15);
            }
        }
    }

    // Promise 3

    private static void loadOfSomeBytes() {
        String text = LEAST + ";wind 9";
        int full = text.length();
        // The last bytes that make a whole text, and the first ones that don't.
        isLoaded(text, full, 0, 9);
        isLoaded(text, full + 1, 0, 9);
        isLoaded(text, LEAST.length(), 0, 0);
        FlagLaundry x = new FlagLaundry();
        Due.type(x, text);
        isWrong(x, text, LEAST.length() + 1, 1, LEAST.length() + 1);
        Due.type(x, text);
        isWrong(x, text, full - 1, 1, full - 1);
        Due.type(x, text);
        isWrong(x, text, full - 2, 1, full - 2);
        Due.type(x, text);
        isWrong(x, text, 0, 1, 0);
        // With an empty buffer no bytes are as many as there are.
        isWrong(x, "an empty buffer", 0, 1, 0);
        due.outOfBounds("load(1) of none", () -> x.load(1));
        due.outOfBounds("load(-1) of none", () -> x.load(-1));
        StringBuilder twelve = new StringBuilder(LEAST);
        for (int f = 1; f <= 12; f++) {
            twelve.append(";flag 0 0 0 0");
            due.is("load tells the flags", Due.load(x, twelve.toString()), f);
        }
    }

    /** The bytes behind the first n are none of the text, even if they would go on with its last token or line. */
    private static void loadOfPartsOfTokens() {
        for (String line : new String[] {"colour 1", "nation 0 1 0", "nation 9 99 9", "tub 1", "flag 0 3 9 0", "wind 3", "pass 1"}) {
            for (String behind : new String[] {"0", "00", " 0", "9", "x", ";", ";x", "?"}) {
                FlagLaundry x = new FlagLaundry();
                String text = LEAST + ";" + line;
                Due.type(x, text + behind);
                due.is("load of " + text + " without " + behind, x.load(text.length()), line.startsWith("flag") ? 1 : 0);
                // At the end of a full buffer there are no bytes behind.
                Due.type(x, " ".repeat(500 - text.length()) + text);
                due.is("load of 500 bytes, the last of which are " + text, x.load(500), line.startsWith("flag") ? 1 : 0);
            }
        }
        FlagLaundry x = new FlagLaundry();
        Due.type(x, "line 1;colour 0;nation 0 11 0;tub 1");
        isWrong(x, "a word that is cut", 10, 1, 7);
        Due.type(x, LEAST + ";wind 9");
        isWrong(x, "a line that is cut", LEAST.length() + 5, 1, LEAST.length() + 5);
        Due.type(x, " ".repeat(500 - LEAST.length() - 5) + LEAST + ";wind");
        isWrong(x, "the end of a full buffer where a line is not complete", 500, 1, 500);
        Due.type(x, " ".repeat(500 - LEAST.length() - 1) + LEAST + ";");
        isWrong(x, "a semicolon at the end of a full buffer", 500, 1, 500);
        Due.type(x, " ".repeat(494) + "line 1");
        isWrong(x, "no colour at the end of a full buffer", 500, 4, 500);
    }

    private static void isLoaded(String text, int n, int flags, int wind) {
        FlagLaundry x = new FlagLaundry();
        Due.type(x, text);
        due.is("load(" + n + ") of " + text, x.load(n), flags);
        due.is("WIND", x.count(6), wind);
        due.is("buffered", x.buffered(), 0);
        due.is("parseError", x.parseError(), 0);
        due.is("errorPosition", x.errorPosition(), -1);
    }

    /** A load that is out of bounds leaves all as it was; one with an error all but the buffer and the error. */
    private static void loadLeavesAll() {
        Twins[] all = {Twins.lived(due, FLAGS + ";put 0 0"), Twins.lived(due, LEAST), new Twins(due, FlagLaundry::new),
            new Twins(due, () -> Due.of(FLAGS))};
        for (Twins x : all) {
            x.isThrown("load(-1)", Twins.NO_SUCH, y -> y.load(-1));
            x.isThrown("load(MIN)", Twins.NO_SUCH, y -> y.load(Integer.MIN_VALUE));
            x.isThrown("load(MAX)", Twins.NO_SUCH, y -> y.load(Integer.MAX_VALUE));
            x.isThrown("load of a byte more", Twins.NO_SUCH, y -> y.load(y.buffered() + 1));
            x.isThrown("load of 256 more", Twins.NO_SUCH, y -> y.load(y.buffered() + 256));
            x.isThrown("load of 65536", Twins.NO_SUCH, y -> y.load(1 << 16));
            x.isLoadRefused("");
            x.isLoadRefused("line 9");
            x.isLoadRefused("line 1");
            x.isLoadRefused(LEAST + ";");
            x.isLoadRefused(FLAGS + ";flag 0 0 9 0 0");
            x.isLoadRefused(GREATEST + ";flag 3 3 9 5;hang 0;wind 9;pass 50;hang 0;wind 9;pass 50;put 0 2;wash 2 3;wash 2 3");
        }
        Twins full = new Twins(due, () -> {
            FlagLaundry x = Due.of(FLAGS);
            Due.type(x, " ".repeat(500));
            return x;
        });
        full.isThrown("load(501)", Twins.NO_SUCH, y -> y.load(501));
        full.isQuiet("a 26th append", y -> due.is("append", y.append(1, 2, 3, 4, 5), -1));
    }

    // Promises 4 and 5

    private static void errorOfTheLatestLoad() {
        FlagLaundry x = new FlagLaundry();
        isError(x, 0, -1);
        due.outOfBounds("load(1)", () -> x.load(1));
        isError(x, 0, -1);
        Due.type(x, "line 9");
        isError(x, 0, -1);
        due.refused("load", () -> x.load(6));
        isError(x, 2, 5);
        due.outOfBounds("load(1)", () -> x.load(1));
        isError(x, 2, 5);
        Due.type(x, "?");
        isError(x, 2, 5);
        due.refused("load", () -> x.load(1));
        isError(x, 1, 0);
        Due.load(x, LEAST);
        isError(x, 0, -1);
        due.outOfBounds("load(-1)", () -> x.load(-1));
        isError(x, 0, -1);
        due.refused("a repeated colour", () -> Due.load(x, LEAST + ";flag 0 0 0 0 0"));
        isError(x, 3, LEAST.length() + 14);
        x.setWind(3);
        x.undo();
        isError(x, 3, LEAST.length() + 14);
        due.refused("no colour", () -> Due.load(x, "line 1"));
        isError(x, 4, 6);
        Due.load(x, FLAGS);
        isError(x, 0, -1);
    }

    private static void isError(FlagLaundry x, int code, int position) {
        due.is("parseError", x.parseError(), code);
        due.is("errorPosition", x.errorPosition(), position);
    }

    /** Nothing is left of the laundries before, whether the texts between had errors or not. */
    private static void loadReplacesAll() {
        String full = GREATEST + ";flag 3 3 9 5;flag 3 3 9 1;flag 0 0 0 2;put 0 0;put 1 0;wash 0 1;hang 2;hang 0;put 1 2;wind 8;pass 50;hang 2";
        String[] texts = {LEAST, GREATEST, FLAGS, full};
        for (String before : texts) {
            for (String after : texts) {
                Twins fresh = new Twins(due, () -> Due.of(after));
                fresh.isSame(after + " behind " + before, () -> afterLoads(before, after, false));
                fresh.isSame(after + " behind an error and " + before, () -> afterLoads(before, after, true));
            }
        }
    }

    /** Nothing is left of what was earned, stained, bleached, washed or handed over, nor of the flags themselves. */
    private static void loadForgetsAll() {
        for (String after : new String[] {LEAST, FLAGS, GREATEST}) {
            Twins fresh = new Twins(due, () -> withAllFlags(Due.of(after)));
            for (int loads = 1; loads <= 3; loads++) {
                int times = loads;
                fresh.isSame(after + ", loaded " + times + " times behind a laundry that has seen all", () -> {
                    FlagLaundry x = seenAll();
                    for (int k = 0; k < times; k++) {
                        Due.load(x, after);
                    }
                    return withAllFlags(x);
                });
            }
        }
    }

    private static FlagLaundry withAllFlags(FlagLaundry x) {
        for (int f = x.count(4); f < 12; f++) {
            x.addFlag(0, 1, 1, 2);
        }
        return x;
    }

    /** Twelve flags: of all places, some stained, some bleached; EARNED, FINED, washes and falls are above 0. */
    private static FlagLaundry seenAll() {
        FlagLaundry x = Due.of("line 8;colour 0;colour 0;nation 0 9 1;nation 2 9 3;nation 0 9 2;tub 6;tub 6;tub 6"
                + ";flag 0 3 0 0;flag 2 3 9 1".repeat(4) + ";flag 1 3 0 1".repeat(4));
        x.pass(4);
        x.handOver(1);
        for (int f = 0; f <= 7; f++) {
            x.put(f, f / 3);
        }
        for (int t = 0; t <= 2; t++) {
            x.wash(t, 0);
        }
        for (int f = 0; f <= 6; f += 2) {
            x.bleach(f);
        }
        x.hangAll();
        x.setWind(9);
        x.pass(3);
        x.setWind(0);
        x.pass(9);
        for (int f = 0; f <= 4; f += 2) {
            x.takeDown(f);
            x.iron(f, 0);
        }
        x.hangAll();
        x.setWind(8);
        x.takeDown(1);
        x.put(1, 2);
        x.put(0, 2);
        int[] sums = {12, 16, 8, 3, 2, 3, 4, 12, 24, 3, 3, 2};
        for (int k = 0; k < sums.length; k++) {
            due.is("it has seen all, count(" + (k + 4) + ")", x.count(k + 4), sums[k]);
        }
        x.save(0);
        x.save(1);
        return x;
    }

    private static FlagLaundry afterLoads(String before, String after, boolean error) {
        FlagLaundry x = Due.of(before);
        x.save(0);
        x.save(1);
        for (int k = 0; k < 9; k++) {
            x.setWind(9);
            x.pass(1);
        }
        if (error) {
            due.refused("with an error", () -> Due.load(x, before + ";wind 7;pass 50;?"));
            due.is("undoable", x.undoable(), 8);
        }
        due.is("load", Due.load(x, after), Due.of(after).count(4));
        return x;
    }

    /** Each part of a text from its start, and the text with each of its bytes changed: as the Model reads it. */
    private static void eachPrefix() {
        String text = "line 2;colour 1;colour 3;nation 05 20 3;tub 2;flag 0 3 9 0;flag 0 1 4 1 0;put 0 0;put 1 0;wash 0 1;hang 1;wind 7;pass 12";
        for (int n = 0; n <= text.length(); n++) {
            isReadAsByModel(text.substring(0, n));
        }
        for (int at = 0; at < text.length(); at++) {
            for (char c : " ;0159axz?/:`{\u00b0\u00ff".toCharArray()) {
                isReadAsByModel(text.substring(0, at) + c + text.substring(at + 1));
                isReadAsByModel(text.substring(0, at) + c + text.substring(at));
            }
            isReadAsByModel(text.substring(0, at) + text.substring(at + 1));
        }
    }

    private static void isReadAsByModel(String text) {
        FlagLaundry x = new FlagLaundry();
        Model model = new Model();
        Due.type(x, text);
        model.type(text);
        int got = -2;
        int want = -2;
        try {
            got = x.load(text.length());
        } catch (IllegalArgumentException e) {
            due.is(text + " buffered", x.buffered(), 0);
        }
        try {
            want = (int) model.call("load", text.length());
        } catch (IllegalArgumentException e) {
            due.is(text + " buffered", model.call("buffered"), 0);
        }
        due.is("load of " + text, got, want);
        due.is("parseError of " + text, x.parseError(), model.call("parseError"));
        due.is("errorPosition of " + text, x.errorPosition(), model.call("errorPosition"));
    }

    // Section 7, tokens

    private static void runsOfLettersAndDigits() {
        String rest = LEAST.substring(6);
        right("line1" + rest, 0);
        right("line01" + rest, 0);
        right("line 08" + rest, 0);
        wrong("line 001" + rest, 1, 5);
        wrong("line 000" + rest, 1, 5);
        wrong("line 100" + rest, 1, 5);
        // Numbers that would be 1 if they wrapped around at 2 to the 8th, 16th, 32nd or 64th.
        wrong("line 257" + rest, 1, 5);
        wrong("line 65537" + rest, 1, 5);
        wrong("line 4294967297" + rest, 1, 5);
        wrong("line 18446744073709551617" + rest, 1, 5);
        wrong("line " + "0".repeat(300) + "1" + rest, 1, 5);
        right("line 1;colour0;nation0 1 0;tub1", 0);
        right("line 1;colour 00;nation 00 01 00;tub 01;flag 00 00 00 00;put 00 00;wash 00 00;hang 00;wind 00;pass 01", 1);
        wrong("line 1;colour 000", 1, 14);
        // Six letters make a word, seven don't, and no word is cut.
        wrong("line 1;colours 0", 1, 7);
        wrong("line 1;colou 0", 1, 7);
        wrong("line 1;nationn 0 1 0", 1, 7);
        wrong("line 1;abcdef 0", 1, 7);
        wrong("line 1;abcdefg 0", 1, 7);
        wrong("linelin 1", 1, 0);
        wrong("line 1;tubs 1", 1, 7);
        wrong("line 1;tu 1", 1, 7);
        wrong("line 1;pas 1", 1, 7);
        wrong("line 1;passs 1", 1, 7);
        wrong("line" + "e".repeat(400) + " 1", 1, 0);
        wrong("line 1;colour " + "a".repeat(300), 1, 14);
        // A run ends where the other one begins: two tokens.
        wrong("line 1tub", 1, 6);
        wrong("line 1;colour 0nation", 1, 15);
        right("line 1;colour 0;nation 0 1 0;tub 1;flag0 0 0 0;put0 0;wash0 0;hang0;wind0;pass1", 1);
        right(LEAST.replace(";", " ; "), 0);
    }

    private static void blanks() {
        right("   line   1   ;   colour   0;nation  0   1  0   ;tub    1    ", 0);
        wrong("li ne 1", 1, 0);
        wrong("line 1;col our 0", 1, 7);
        wrong(LEAST + ";wind 1 0", 1, LEAST.length() + 8);
        right(LEAST + ";wind 9", 0);
        wrong(LEAST + ";wind 19", 2, LEAST.length() + 6);
        // Other bytes that print as nothing separate no tokens.
        for (char c : "\t\n\r\u000b\f\u0000\u00a0".toCharArray()) {
            wrong("line" + c + "1" + LEAST.substring(6), 1, 4);
            wrong(LEAST + c, 1, LEAST.length());
        }
        wrong(" ".repeat(500), 1, 500);
        String full = " ".repeat(500 - LEAST.length()) + LEAST;
        right(full, 0);
        wrong(" ".repeat(499) + "x", 1, 499);
    }

    // Section 7, grammar

    /** Each kind of line with its numbers. */
    private static final String[] LINES = {"colour 0", "nation 0 1 0", "tub 1", "flag 0 3 9 0", "put 0 0", "wash 0 0",
        "hang 0", "wind 0", "pass 1"};

    /** A laundry of which flag 0 is in the basket, and flag 1 in tub 0. */
    private static final String BEFORE = LEAST + ";flag 0 3 9 0;flag 0 3 9 0;tub 2;put 1 0;";

    private static String fitted(String line) {
        return line.equals("put 0 0") ? "put 0 1" : line;
    }

    private static void linesThatAreNotComplete() {
        String at = BEFORE;
        for (String line : LINES) {
            String[] tokens = fitted(line).split(" ");
            String part = at;
            for (int k = 0; k < tokens.length; k++) {
                // Before this token comes the end, a semicolon, a word, or a byte that starts no token.
                wrong(part, 1, part.length());
                wrong(part + "  ", 1, part.length() + 2);
                wrong(part + ";", 1, part.length());
                wrong(part + "line", 1, part.length());
                wrong(part + "-1", 1, part.length());
                if (k == 0) {
                    wrong(part + "1", 1, part.length());
                }
                part += tokens[k] + " ";
            }
            right(part, fitted(line).startsWith("flag") ? 3 : 2);
        }
        wrong("", 1, 0);
        wrong(" ", 1, 1);
        wrong("line", 1, 4);
        wrong("line ", 1, 5);
        wrong("line;", 1, 4);
        wrong("line x", 1, 5);
        wrong(";", 1, 0);
        wrong(";line 1", 1, 0);
        wrong("1 line", 1, 0);
    }

    private static void linesThatGoOn() {
        for (String line : LINES) {
            String text = BEFORE + fitted(line);
            boolean flag = line.startsWith("flag");
            int flags = flag ? 3 : 2;
            right(text, flags);
            right(text + ";wind 1", flags);
            wrong(text + " 0", flag ? 3 : 1, text.length() + 1);
            wrong(text + " 1", flag ? 2 : 1, text.length() + 1);
            wrong(text + " wind 1", 1, text.length() + 1);
            wrong(text + "?", 1, text.length());
            wrong(text + ";", 1, text.length() + 1);
            wrong(text + ";;wind 1", 1, text.length() + 1);
            wrong(text + ";line 1", 1, text.length() + 1);
            wrong(text + ";iron 0 0", 1, text.length() + 1);
        }
        wrong("line 1 1", 1, 7);
        wrong("line 1 colour 0", 1, 7);
        wrong("line 1 line 1", 1, 7);
    }

    // Section 7, bounds: code 2

    private static void numbersInBounds() {
        number("line ", LEAST.substring(6), 1, 8);
        number(LEAST + ";colour ", "", 0, 4);
        number(LEAST + ";nation ", " 1 0", 0, 99);
        number(LEAST + ";nation 0 ", " 0", 1, 99);
        number(LEAST + ";nation 0 1 ", "", 0, 9);
        number(LEAST + ";tub ", "", 1, 6);
        number(LEAST + ";flag ", " 0 0 0", 0, 0);
        number(LEAST + ";flag 0 ", " 0 0", 0, 3);
        number(LEAST + ";flag 0 0 ", " 0", 0, 9);
        number(LEAST + ";flag 0 0 0 ", "", 0, 0);
        number(GREATEST + ";flag ", " 0 0 0", 0, 3);
        number(GREATEST + ";flag 0 0 0 ", "", 0, 5);
        number(FLAGS + ";put ", " 0", 0, 1);
        number(GREATEST + ";flag 0 0 0 0;put 0 ", "", 0, 2);
        number(GREATEST + ";flag 0 3 0 0;flag 0 3 0 0;flag 0 3 0 0;put 0 0;put 1 1;put 2 2;wash ", " 0", 0, 2);
        number(FLAGS + ";put 0 0;wash 0 ", "", 0, 3);
        number(FLAGS + ";hang ", "", 0, 1);
        number(LEAST + ";wind ", "", 0, 9);
        number(LEAST + ";pass ", "", 1, 50);
        StringBuilder twelve = new StringBuilder(GREATEST);
        for (int f = 0; f < 12; f++) {
            twelve.append(";flag 0 0 0 0");
        }
        number(twelve + ";put ", " 0", 0, 11);
        number(twelve + ";hang ", "", 0, 11);
        // What they tell is what was read, the greatest as the least.
        FlagLaundry x = Due.of("line 8;colour 4;colour 0;nation 99 99 9;nation 0 1 0;tub 6;tub 1;flag 1 3 9 1;flag 0 0 0 0;wind 9;pass 50");
        int[] got = {x.count(3), x.colour(0, 0), x.colour(1, 0), x.nation(0, 0), x.nation(0, 1), x.nation(0, 2), x.nation(1, 0),
            x.nation(1, 1), x.nation(1, 2), x.tub(0, 0), x.tub(1, 0), x.flag(0, 0), x.flag(0, 1), x.flag(0, 2), x.flag(0, 3),
            x.flag(1, 0), x.flag(1, 1), x.flag(1, 2), x.flag(1, 3), x.count(6), x.count(5)};
        int[] want = {8, 4, 0, 99, 99, 9, 0, 1, 0, 6, 1, 1, 2, 3, 9, 0, 1, 0, 0, 9, 50};
        for (int i = 0; i < want.length; i++) {
            due.is("number " + i, got[i], want[i]);
        }
    }

    /** A number between two parts of a text: the last that is allowed and the first that isn't on either side. */
    private static void number(String before, String after, int least, int most) {
        FlagLaundry x = new FlagLaundry();
        for (int number : new int[] {least, most}) {
            String text = before + number + after;
            due.isTrue(text, isRead(x, text));
            String zero = before + (number < 10 ? "0" + number : "" + number) + after;
            due.isTrue(zero, isRead(x, zero));
        }
        for (int number : new int[] {least - 1, most + 1, 99}) {
            if (number >= 0 && (number < least || number > most)) {
                // Code 1 if it takes three digits, and at the same place whatever comes then.
                wrong(before + number + after, number > 99 ? 1 : 2, before.length());
                wrong(before + number, number > 99 ? 1 : 2, before.length());
                wrong(before + number + ";?", number > 99 ? 1 : 2, before.length());
            }
        }
        wrong(before + (least + 100) + after, 1, before.length());
        wrong(before + "-" + least + after, 1, before.length());
    }

    private static boolean isRead(FlagLaundry x, String text) {
        try {
            Due.load(x, text);
            return true;
        } catch (IllegalArgumentException e) {
            return false;
        }
    }

    private static void numbersOfWhatWasToldAhead() {
        wrong("line 1;flag 0 0 0 0", 2, 12);
        wrong("line 1;nation 0 1 0;flag 0 0 0 0;colour 0;tub 1", 2, 31);
        right("line 1;nation 0 1 0;colour 0;flag 0 0 0 0;tub 1", 1);
        wrong("line 1;colour 0;flag 0 0 0 0;nation 0 1 0;tub 1", 2, 21);
        wrong(LEAST + ";flag 1 0 0 0;nation 0 1 0", 2, LEAST.length() + 6);
        right(LEAST + ";nation 0 1 0;flag 1 0 0 0", 1);
        wrong(LEAST + ";flag 0 0 0 1;colour 0", 2, LEAST.length() + 12);
        right(LEAST + ";colour 0;flag 0 0 0 1", 1);
        wrong("line 1;put 0 0", 2, 11);
        wrong("line 1;hang 0", 2, 12);
        wrong("line 1;wash 0 0", 2, 12);
        wrong(LEAST + ";put 0 0;flag 0 0 0 0", 2, LEAST.length() + 5);
        wrong(LEAST + ";hang 0;flag 0 0 0 0", 2, LEAST.length() + 6);
        wrong("line 1;colour 0;nation 0 1 0;flag 0 0 0 0;put 0 0;tub 1", 2, 48);
        wrong("line 1;colour 0;nation 0 1 0;flag 0 0 0 0;wash 0 0;tub 1", 2, 47);
        wrong(FLAGS + ";put 0 1;tub 1", 2, FLAGS.length() + 7);
        right(FLAGS + ";tub 1;put 0 1", 2);
        // A flag is not told before its line is: its own number is none yet.
        wrong(LEAST + ";put 0 0", 2, LEAST.length() + 5);
    }

    // Section 7, code 4

    private static void tooMany() {
        isMost("line 1;nation 0 1 0;tub 1", ";colour 0", 6, 0);
        isMost("line 1;colour 0;tub 1", ";nation 0 1 0", 4, 0);
        isMost("line 1;colour 0;nation 0 1 0", ";tub 1", 3, 0);
        isMost(LEAST, ";flag 0 0 0 0", 12, 12);
    }

    private static void isMost(String text, String line, int most, int flags) {
        String full = text + line.repeat(most);
        String word = line.replaceAll(" .*", "");
        int at = full.length() + 1;
        right(full, flags);
        right(full + ";wind 1", flags);
        // The first word of the line has the error, whatever comes then.
        wrong(full + line, 4, at);
        wrong(full + word, 4, at);
        wrong(full + word + " 99", 4, at);
        wrong(full + word + ";", 4, at);
        wrong(full + line + line, 4, at);
        wrong(full + ";wind 1" + line, 4, at + 7);
        wrong(full + word + "s 0", 1, at);
    }

    private static void tooFew() {
        wrong("line 1", 4, 6);
        wrong("line 1 ", 4, 7);
        wrong("line 1;colour 0", 4, 15);
        wrong("line 1;nation 0 1 0", 4, 19);
        wrong("line 1;tub 1", 4, 12);
        wrong("line 1;nation 0 1 0;tub 1", 4, 25);
        wrong("line 1;colour 0;tub 1", 4, 21);
        wrong("line 1;colour 0;nation 0 1 0", 4, 28);
        wrong("line 1;colour 0;nation 0 1 0;flag 0 0 0 0;hang 0;pass 1", 4, 55);
        wrong("line 1;wind 9;pass 50", 4, 21);
        // The position is the number of bytes that are parsed, not that of bytes in the buffer.
        for (int n = 6; n <= 20; n++) {
            FlagLaundry x = new FlagLaundry();
            Due.type(x, "line 1");
            isWrong(x, "line 1 and blanks", n, 4, n);
        }
        right("line 1;tub 1;nation 0 1 0;colour 0", 0);
    }

    // Section 7, code 3

    private static void refused() {
        String six = GREATEST + ";flag 0 0 0";
        right(six + " 5 4 3 2 1 0", 1);
        for (int c = 0; c <= 5; c++) {
            wrong(six + " 5 4 3 2 1 0 " + c, 3, six.length() + 13);
            wrong(six + " " + c + " 0" + c, 3, six.length() + 3);
        }
        // The TUB of put: not in the basket, or no room.
        String three = GREATEST + ";flag 0 3 0 0;flag 0 3 0 0;flag 0 0 0 0;";
        int at = three.length();
        right(three + "put 0 1;put 1 1", 3);
        wrong(three + "put 0 1;put 1 1;put 2 1", 3, at + 22);
        wrong(three + "put 0 2;put 1 2", 3, at + 14);
        wrong(three + "put 0 0;put 0 1", 3, at + 14);
        wrong(three + "put 0 0;put 0 0", 3, at + 14);
        wrong(three + "hang 0;put 0 0", 3, at + 13);
        right(three + "put 0 2;wash 2 0;put 1 2", 3);
        // The HEAT of wash: an empty tub, or a flag that does not bear it.
        wrong(three + "wash 0 0", 3, at + 7);
        wrong(three + "wash 2 3", 3, at + 7);
        wrong(three + "put 0 0;wash 0 0;wash 0 0", 3, at + 24);
        right(three + "put 0 0;put 1 0;wash 0 3", 3);
        right(three + "put 0 0;put 2 0;wash 0 0", 3);
        wrong(three + "put 0 0;put 2 0;wash 0 1", 3, at + 23);
        wrong(three + "put 2 0;put 0 0;wash 0 01", 3, at + 23);
        // The FLAG of hang: not in the basket, or no peg is free.
        wrong(three + "put 0 0;hang 0", 3, at + 13);
        wrong(three + "hang 0;hang 0", 3, at + 12);
        String one = FLAGS + ";";
        right(one + "hang 1", 2);
        wrong(one + "hang 0;hang 1", 3, one.length() + 12);
        wrong(one + "hang 0;hang 0", 3, one.length() + 12);
        // The first hour of a storm makes the peg free.
        right(one + "hang 0;wind 7;pass 1;hang 1", 2);
        wrong(one + "hang 0;wind 6;pass 1;hang 1", 3, one.length() + 26);
        String eight = GREATEST + ";flag 0 0 0 0".repeat(9) + ";hang 0;hang 1;hang 2;hang 3;hang 4;hang 5;hang 6;hang 7";
        right(eight, 9);
        wrong(eight + ";hang 8", 3, eight.length() + 6);
    }

    private static void smallestCode() {
        // 1 before 2: three digits, out of bounds too.
        wrong("line 999", 1, 5);
        wrong(LEAST + ";pass 100", 1, LEAST.length() + 6);
        // 1 before 4: the end of a text without a colour, where a line is not complete too.
        wrong("", 1, 0);
        wrong("line", 1, 4);
        wrong("line 1;", 1, 7);
        wrong("line 1;colour", 1, 13);
        // 1 before 4: seven letters, of which the first six are a word too many.
        wrong("line 1" + ";colour 0".repeat(6) + ";coloura 0", 1, 61);
        // 2 before 3: out of bounds, refused too.
        wrong(FLAGS + ";hang 0;put 0 1", 2, FLAGS.length() + 14);
        wrong(FLAGS + ";wash 0 4", 2, FLAGS.length() + 8);
        wrong(FLAGS + ";put 1 0;wash 0 4", 2, FLAGS.length() + 16);
        wrong(FLAGS + ";put 1 0;wash 0 3", 3, FLAGS.length() + 16);
        wrong(FLAGS + ";hang 0;hang 2", 2, FLAGS.length() + 13);
        wrong(LEAST + ";flag 0 0 0 0 1", 2, LEAST.length() + 14);
    }

    private static void firstToken() {
        wrong("line 9;colour 9;?", 2, 5);
        wrong("lin 9", 1, 0);
        wrong("line 1;colour 9;nation x", 2, 14);
        wrong("line 1;nation 99 0 99", 2, 17);
        wrong("line 1;nation 99 100 99", 1, 17);
        wrong("line 1;nation 99 99 10?", 2, 20);
        wrong("line 1;nation 99 99 9?", 1, 21);
        wrong(FLAGS + ";put 9 9", 2, FLAGS.length() + 5);
        wrong(FLAGS + ";wash 9 9", 2, FLAGS.length() + 6);
        wrong(FLAGS + ";flag 9 9 99 9", 2, FLAGS.length() + 6);
        wrong(FLAGS + ";flag 0 9 99 9", 2, FLAGS.length() + 8);
        wrong(FLAGS + ";flag 0 0 99 9", 2, FLAGS.length() + 10);
        wrong(FLAGS + ";flag 0 0 0 9 0 0", 2, FLAGS.length() + 12);
        wrong(FLAGS + ";flag 0 0 0 0 0 9", 3, FLAGS.length() + 14);
        wrong(FLAGS + ";hang 0;hang 0 0", 3, FLAGS.length() + 13);
        wrong(FLAGS + ";put 0 0;put 0 0 0", 3, FLAGS.length() + 15);
    }

    private static void right(String text, int flags) {
        FlagLaundry x = new FlagLaundry();
        try {
            due.is(text, Due.load(x, text), flags);
        } catch (IllegalArgumentException e) {
            due.isTrue(text + " had error " + x.parseError() + " at " + x.errorPosition(), false);
        }
        due.is(text + " parseError", x.parseError(), 0);
        due.is(text + " errorPosition", x.errorPosition(), -1);
    }

    private static void wrong(String text, int code, int position) {
        FlagLaundry x = new FlagLaundry();
        Due.type(x, text);
        isWrong(x, text, text.length(), code, position);
    }

    private static void isWrong(FlagLaundry x, String text, int n, int code, int position) {
        due.refused(text, () -> x.load(n));
        due.is(text + " parseError", x.parseError(), code);
        due.is(text + " errorPosition", x.errorPosition(), position);
        due.is(text + " buffered", x.buffered(), 0);
    }
}
