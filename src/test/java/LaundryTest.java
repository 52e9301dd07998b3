/** Promises 7 to 16, and section 1: the numbers of the laundry. */
public final class LaundryTest {
    private static final Due due = new Due();
    private static final String TEXT = "line 3;colour 0;colour 2;colour 4;"
            + "nation 3 10 4;nation 20 7 0;nation 9 99 9;tub 2;tub 6;"
            + "flag 0 2 5 0;flag 0 3 0 1 2;flag 1 1 9 2 0";

    public static void main(String[] args) {
        counts();
        colours();
        nations();
        flags();
        tubs();
        inTub();
        pegs();
        wettest();
        gap();
        withoutText();
        due.end();
    }

    private static void counts() {
        FlagLaundry x = Due.of(TEXT);
        isCounts(x, 3, 3, 2, 3, 3, 0, 0, 3, 0, 0, 0, 0, 0, 0, 0, 1);
        x.setWind(7);
        x.put(0, 1);
        x.put(2, 1);
        x.wash(1, 1);
        x.put(2, 0);
        x.hang(0);
        isCounts(x, 3, 3, 2, 3, 3, 0, 7, 1, 1, 1, 0, 0, 0, 1, 0, 1);
        x.pass(2);
        isCounts(x, 3, 3, 2, 3, 3, 2, 7, 2, 1, 0, 0, 0, 0, 1, 1, 1);
        x.hang(0);
        x.pass(3);
        due.is("each fall counts", x.count(14), 2);
        due.refused("count(-1)", () -> x.count(-1));
        due.refused("count(16)", () -> x.count(16));
        // Paid 10 - 4 * (5 - 3) = 2 of 10 for one flag.
        FlagLaundry y = Due.of("line 1;colour 0;nation 3 10 4;tub 1;flag 0 0 0 0;pass 5");
        due.is("handOver", y.handOver(0), 2);
        isCounts(y, 1, 1, 1, 1, 1, 5, 0, 0, 0, 0, 1, 2, 8, 0, 0, 0);
    }

    private static void isCounts(FlagLaundry x, int... want) {
        for (int what = 0; what < want.length; what++) {
            due.is("count(" + what + ")", x.count(what), want[what]);
        }
    }

    private static void colours() {
        FlagLaundry x = Due.of(TEXT + ";put 0 0;put 1 0;wash 0 2");
        isNumbers("colour 0", what -> x.colour(0, what), 0, 2, 1);
        isNumbers("colour 1", what -> x.colour(1, what), 2, 1, 1);
        isNumbers("colour 2", what -> x.colour(2, what), 4, 2, 0);
        due.outOfBounds("colour(3, 0)", () -> x.colour(3, 0));
        due.outOfBounds("colour(-1, 9)", () -> x.colour(-1, 9));
        due.refused("colour(0, 3)", () -> x.colour(0, 3));
        due.refused("colour(0, -1)", () -> x.colour(0, -1));
    }

    private static void nations() {
        FlagLaundry x = Due.of(TEXT);
        isNumbers("nation 0", what -> x.nation(0, what), 3, 10, 4, 2, 1, 0, 0);
        isNumbers("nation 1", what -> x.nation(1, what), 20, 7, 0, 1, 0, 0, 0);
        isNumbers("nation 2", what -> x.nation(2, what), 9, 99, 9, 0, 0, 0, 0);
        x.pass(3);
        due.is("not late at DUE", x.nation(0, 6), 0);
        x.pass(2);
        due.is("late", x.nation(0, 6), 2);
        due.outOfBounds("nation(3, 0)", () -> x.nation(3, 0));
        due.outOfBounds("nation(-1, 7)", () -> x.nation(-1, 7));
        due.refused("nation(0, 7)", () -> x.nation(0, 7));
        due.refused("nation(0, -1)", () -> x.nation(0, -1));
        FlagLaundry y = Due.of("line 1;colour 0;nation 3 10 4;tub 1;flag 0 0 0 0;pass 5");
        y.handOver(0);
        y.pass(10);
        isNumbers("handed over", what -> y.nation(0, what), 3, 10, 4, 1, 0, 1, 2);
    }

    private static void flags() {
        FlagLaundry x = Due.of(TEXT);
        isNumbers("flag 0", what -> x.flag(0, what), 0, 1, 2, 5, 0, 0, 0, 0, 0, -1);
        isNumbers("flag 2", what -> x.flag(2, what), 1, 5, 1, 9, 0, 0, 0, 0, 0, -1);
        x.put(0, 1);
        x.put(1, 1);
        isNumbers("in a tub", what -> x.flag(1, what), 0, 6, 3, 0, 0, 0, 0, 0, 1, 1);
        x.wash(1, 2);
        isNumbers("washed", what -> x.flag(0, what), 0, 1, 2, 0, 9, 3, 2, 0, 0, -1);
        x.bleach(0);
        x.hang(1);
        x.hang(0);
        isNumbers("on the line", what -> x.flag(0, what), 0, 1, 2, 0, 9, 3, 0, 1, 2, 1);
        due.outOfBounds("flag(3, 0)", () -> x.flag(3, 0));
        due.outOfBounds("flag(-1, 10)", () -> x.flag(-1, 10));
        due.refused("flag(0, 10)", () -> x.flag(0, 10));
        due.refused("flag(0, -1)", () -> x.flag(0, -1));
        FlagLaundry y = Due.of("line 1;colour 0;nation 3 10 4;tub 1;flag 0 1 0 0");
        y.handOver(0);
        isNumbers("handed over", what -> y.flag(0, what), 0, 1, 1, 0, 0, 0, 0, 0, 3, -1);
    }

    private static void tubs() {
        FlagLaundry x = Due.of(TEXT + ";put 0 1;put 2 1");
        isNumbers("tub 0", what -> x.tub(0, what), 2, 0, 3, 0, 0);
        isNumbers("tub 1", what -> x.tub(1, what), 6, 2, 1, 14, 5);
        x.wash(1, 0);
        // Flag 2 has a stain of none; flag 0 neither: colour 0 is of both, colour 2 does not run.
        x.put(1, 0);
        isNumbers("tub 0", what -> x.tub(0, what), 2, 1, 3, 0, 6);
        due.outOfBounds("tub(2, 0)", () -> x.tub(2, 0));
        due.outOfBounds("tub(-1, 5)", () -> x.tub(-1, 5));
        due.refused("tub(0, 5)", () -> x.tub(0, 5));
        due.refused("tub(0, -1)", () -> x.tub(0, -1));
        // Stains are no colours of a flag.
        FlagLaundry y = Due.of(TEXT + ";put 0 0;put 1 0;wash 0 2;put 1 0");
        due.is("stain of flag 1", y.flag(1, 6), 1);
        due.is("tub(0, 4)", y.tub(0, 4), 6);
    }

    private static void inTub() {
        FlagLaundry x = Due.of(TEXT + ";put 2 1;put 0 1;put 1 1");
        due.is("inTub", x.inTub(1, 0), 2);
        due.is("inTub", x.inTub(1, 1), 0);
        due.is("inTub", x.inTub(1, 2), 1);
        due.is("inTub", x.inTub(1, 3), -1);
        due.is("inTub", x.inTub(1, -1), -1);
        due.is("inTub", x.inTub(1, Integer.MAX_VALUE), -1);
        due.is("inTub", x.inTub(0, 0), -1);
        due.outOfBounds("inTub(2, 0)", () -> x.inTub(2, 0));
        due.outOfBounds("inTub(-1, 0)", () -> x.inTub(-1, 0));
        x.takeDown(0);
        due.is("inTub", x.inTub(1, 0), 2);
        due.is("inTub", x.inTub(1, 1), 1);
        due.is("inTub", x.inTub(1, 2), -1);
    }

    private static void pegs() {
        FlagLaundry x = Due.of(TEXT + ";hang 2;hang 0");
        due.is("onPeg", x.onPeg(0), 2);
        due.is("onPeg", x.onPeg(1), 0);
        due.is("onPeg", x.onPeg(2), -1);
        due.is("freePegs", x.freePegs(), 1);
        x.takeDown(2);
        due.is("onPeg", x.onPeg(0), -1);
        due.is("onPeg", x.onPeg(1), 0);
        due.is("freePegs", x.freePegs(), 2);
        due.outOfBounds("onPeg(3)", () -> x.onPeg(3));
        due.outOfBounds("onPeg(-1)", () -> x.onPeg(-1));
    }

    private static void wettest() {
        FlagLaundry x = Due.of(TEXT);
        due.is("wettest", x.wettest(), -1);
        x.hang(2);
        due.is("a dry one is on the line", x.wettest(), 2);
        x.hang(1);
        due.is("the smallest number", x.wettest(), 1);
        x.takeDown(2);
        x.put(2, 0);
        x.wash(0, 0);
        due.is("not in the basket", x.wettest(), 1);
        x.hang(2);
        due.is("the greatest WET", x.wettest(), 2);
    }

    private static void gap() {
        FlagLaundry x = Due.of(TEXT + ";put 0 0;put 1 0;wash 0 2;hang 0;put 1 1");
        due.is("gap", x.gap(), 0);
        FlagLaundry y = Due.of("line 1;colour 0;nation 3 10 4;nation 0 9 9;tub 1;flag 0 1 0 0;flag 1 1 0 0;pass 4");
        y.handOver(0);
        y.handOver(1);
        due.is("EARNED", y.count(11), 6);
        due.is("FINED", y.count(12), 4 + 9);
        due.is("gap", y.gap(), 0);
    }

    private static void withoutText() {
        FlagLaundry x = new FlagLaundry();
        due.noText("count", () -> x.count(-1));
        due.noText("colour", () -> x.colour(0, 0));
        due.noText("nation", () -> x.nation(0, 0));
        due.noText("flag", () -> x.flag(0, 0));
        due.noText("tub", () -> x.tub(0, 0));
        due.noText("inTub", () -> x.inTub(0, 0));
        due.noText("onPeg", () -> x.onPeg(0));
        due.noText("freePegs", x::freePegs);
        due.noText("wettest", x::wettest);
        due.noText("gap", x::gap);
    }

    /** One of the numbers that a call tells. */
    private interface Numbers {
        int of(int what);
    }

    private static void isNumbers(String name, Numbers numbers, int... want) {
        for (int what = 0; what < want.length; what++) {
            due.is(name + ", " + what, numbers.of(what), want[what]);
        }
    }
}
