/**
 * Promises 47 to 58: each reason for which a change is refused, alone, next to the last time that it isn't; and that
 * then nothing that can be asked is different.
 */
public final class ChangeBoundsTest {
    private static final Due due = new Due();
    private static final Class<?> REFUSED = Twins.REFUSED;
    private static final String LEAST = "line 1;colour 0;nation 0 1 0;tub 1";
    private static final String SETUP = "line 8;colour 0;colour 1;colour 2;colour 3;colour 4;colour 0;"
            + "nation 0 1 0;nation 99 99 9;nation 5 20 3;nation 1 9 9;tub 6;tub 2;tub 1";

    public static void main(String[] args) {
        put();
        wash();
        hang();
        hangAll();
        takeDown();
        clearTub();
        iron();
        bleach();
        handOver();
        handOverOfNone();
        passAndWind();
        manyTimes();
        addFlag();
        due.end();
    }

    private static String flags(int flags, String told) {
        return SETUP + (";flag " + told).repeat(flags);
    }

    /** Objects of which nation 3 was handed over too. */
    private static Twins handedOver(String text) {
        return new Twins(due, () -> {
            FlagLaundry x = Twins.livedObject(text);
            x.undo();
            x.handOver(3);
            return x;
        });
    }

    private static void put() {
        FlagLaundry x = Due.of(flags(9, "0 3 0 0"));
        for (int f = 0; f <= 5; f++) {
            due.is("put", x.put(f, 0), f + 1);
        }
        due.is("put", x.put(6, 1), 1);
        due.is("put", x.put(7, 1), 2);
        due.is("put", x.put(8, 2), 1);
        Twins full = Twins.lived(due, flags(9, "0 3 0 0") + ";put 0 0;put 1 0;put 2 0;put 3 0;put 4 0;put 5 0;put 6 2");
        full.isThrown("a seventh in a tub of six", REFUSED, y -> y.put(7, 0));
        full.isThrown("a second in a tub of one", REFUSED, y -> y.put(7, 2));
        full.isAllowed("into another one", y -> y.put(7, 1));
        full.isThrown("into its own full tub", REFUSED, y -> y.put(0, 0));
        full.isThrown("out of a tub into another one", REFUSED, y -> y.put(0, 1));
        Twins places = handedOver(flags(3, "0 3 0 0") + ";flag 3 3 0 0;put 0 0;hang 1");
        places.isThrown("into its own tub", REFUSED, y -> y.put(0, 0));
        places.isThrown("off the line", REFUSED, y -> y.put(1, 0));
        places.isThrown("handed over", REFUSED, y -> y.put(3, 0));
        places.isAllowed("in the basket", y -> due.is("put", y.put(2, 0), 2));
    }

    private static void wash() {
        Twins x = Twins.lived(due, flags(3, "0 3 9 0") + ";flag 0 1 9 0;put 0 0;put 3 0;put 2 1");
        x.isThrown("an empty tub", REFUSED, y -> y.wash(2, 0));
        x.isThrown("an empty tub", REFUSED, y -> y.wash(2, 3));
        x.isThrown("one does not bear it", REFUSED, y -> y.wash(0, 2));
        x.isThrown("one does not bear it", REFUSED, y -> y.wash(0, 3));
        x.isAllowed("all bear it", y -> y.wash(0, 1));
        x.isAllowed("all bear it", y -> y.wash(1, 3));
        Twins emptied = new Twins(due, () -> {
            FlagLaundry y = Due.of(flags(1, "0 3 9 0") + ";put 0 0");
            y.wash(0, 3);
            return y;
        });
        emptied.isThrown("a tub that was washed", REFUSED, y -> y.wash(0, 0));
    }

    private static void hang() {
        FlagLaundry x = Due.of(flags(10, "0 3 0 0"));
        for (int p = 0; p <= 7; p++) {
            due.is("hang", x.hang(9 - p), p);
        }
        Twins full = Twins.lived(due, flags(9, "0 3 0 0") + ";hang 0;hang 1;hang 2;hang 3;hang 4;hang 5;hang 6;hang 7");
        full.isThrown("no peg is free", REFUSED, y -> y.hang(8));
        full.isThrown("on the line already", REFUSED, y -> y.hang(7));
        full.isAllowed("one was taken down", y -> {
            y.takeDown(3);
            due.is("the first free peg", y.hang(8), 3);
        });
        Twins one = Twins.lived(due, LEAST + ";flag 0 3 0 0;flag 0 3 0 0;hang 1");
        one.isThrown("the one peg is not free", REFUSED, y -> y.hang(0));
        Twins places = handedOver(flags(3, "0 3 0 0") + ";flag 3 3 0 0;put 0 0;hang 1");
        places.isThrown("in a tub", REFUSED, y -> y.hang(0));
        places.isThrown("on the line", REFUSED, y -> y.hang(1));
        places.isThrown("handed over", REFUSED, y -> y.hang(3));
        places.isAllowed("the next peg", y -> due.is("hang", y.hang(2), 1));
    }

    private static void hangAll() {
        due.is("without flags", Due.of(LEAST).hangAll(), 0);
        due.is("none is wet", Due.of(flags(12, "0 3 0 0")).hangAll(), 0);
        // Twelve wet ones on eight pegs.
        FlagLaundry x = Due.of(flags(12, "0 3 9 0"));
        for (int f = 0; f < 12; f += 6) {
            for (int k = f; k < f + 6; k++) {
                x.put(k, 0);
            }
            x.wash(0, 0);
        }
        due.is("as long as there are pegs", x.hangAll(), 8);
        for (int p = 0; p <= 7; p++) {
            due.is("by the numbers", x.onPeg(p), p);
        }
        due.is("four are left", x.count(7), 4);
        due.is("no peg is free", x.hangAll(), 0);
        x.takeDown(6);
        x.takeDown(2);
        x.takeDown(0);
        x.put(0, 0);
        due.is("two on three pegs, by the numbers", x.hangAll(), 3);
        due.is("peg 0", x.onPeg(0), 2);
        due.is("peg 2", x.onPeg(2), 6);
        due.is("peg 6", x.onPeg(6), 8);
        due.is("the one in the tub stays", x.flag(0, 8), 1);
        // WET 1 is wet, WET 0 is not; what is in a tub, on the line or handed over stays.
        FlagLaundry y = Due.of(SETUP + ";flag 0 3 0 0;flag 0 3 0 0;flag 0 3 0 0;flag 3 3 0 0;"
                + "put 0 0;wash 0 0;put 1 0;wash 0 0;put 2 0;wash 0 0;hang 0;pass 1;hang 1;pass 8");
        y.takeDown(0);
        y.takeDown(1);
        y.put(2, 0);
        y.handOver(3);
        due.is("WET 0", y.flag(0, 4), 0);
        due.is("WET 1", y.flag(1, 4), 1);
        due.is("the one of WET 1", y.hangAll(), 1);
        due.is("on peg 0", y.onPeg(0), 1);
        due.is("on the line already", y.hangAll(), 0);
    }

    private static void takeDown() {
        Twins x = handedOver(flags(9, "0 3 0 0") + ";flag 3 3 0 0;hang 0;hang 1;hang 2;hang 3;hang 4;hang 5;hang 6;put 7 1");
        x.isThrown("in the basket", REFUSED, y -> y.takeDown(8));
        x.isThrown("handed over", REFUSED, y -> y.takeDown(9));
        x.isAllowed("off the first peg", y -> due.is("takeDown", y.takeDown(0), 0));
        x.isAllowed("off the last one in use", y -> due.is("takeDown", y.takeDown(6), 0));
        x.isAllowed("out of a tub", y -> due.is("takeDown", y.takeDown(7), 0));
        for (int wet = 0; wet <= 9; wet++) {
            FlagLaundry y = Due.of(LEAST + ";flag 0 3 0 0;put 0 0;wash 0 0;hang 0");
            if (wet < 9) {
                y.pass(9 - wet);
            }
            due.is("off the line, WET", y.takeDown(0), wet);
            due.is("it stays as wet", y.flag(0, 4), wet);
            y.put(0, 0);
            due.is("out of a tub, WET", y.takeDown(0), wet);
            due.refused("a second time", () -> y.takeDown(0));
        }
    }

    private static void clearTub() {
        FlagLaundry x = Due.of(flags(12, "0 3 9 0") + ";put 0 0;put 1 0;put 2 0;put 3 0;put 4 0;put 5 0;put 6 1;put 7 2");
        due.is("a full tub", x.clearTub(0), 6);
        due.is("it is empty", x.clearTub(0), 0);
        due.is("in the basket", x.count(7), 10);
        due.is("in the others", x.count(8), 2);
        due.is("not washed", x.flag(0, 4), 0);
        due.is("a tub of one", x.clearTub(2), 1);
        due.is("half a tub", x.clearTub(1), 1);
        due.is("all in the basket", x.count(7), 12);
        due.is("each was a change", x.undoable(), 4);
    }

    private static void iron() {
        Twins x = handedOver(flags(1, "0 2 0 0") + ";flag 0 3 0 0;flag 0 3 0 0;flag 3 3 0 0;flag 0 3 0 0;put 1 0;hang 2;put 4 1;wash 1 0");
        x.isThrown("too hot", REFUSED, y -> y.iron(0, 3));
        x.isAllowed("as hot as it bears", y -> y.iron(0, 2));
        x.isThrown("in a tub", REFUSED, y -> y.iron(1, 0));
        x.isThrown("on the line", REFUSED, y -> y.iron(2, 0));
        x.isThrown("handed over", REFUSED, y -> y.iron(3, 0));
        x.isThrown("WET 9", REFUSED, y -> y.iron(4, 0));
        for (int wet = 3; wet <= 4; wet++) {
            int hours = 9 - wet;
            Twins edge = new Twins(due, () -> {
                FlagLaundry y = Due.of(LEAST + ";flag 0 3 0 0;put 0 0;wash 0 0;hang 0;pass " + hours);
                y.takeDown(0);
                return y;
            });
            if (wet == 3) {
                edge.isAllowed("WET 3", y -> y.iron(0, 0));
            } else {
                edge.isThrown("WET 4", REFUSED, y -> y.iron(0, 0));
            }
        }
        Twins stained = new Twins(due, () -> {
            FlagLaundry y = Due.of("line 1;colour 0;colour 4;nation 0 1 0;tub 2;flag 0 3 0 1;flag 0 3 0 0;put 0 0;put 1 0;wash 0 0;hang 0;pass 9");
            y.takeDown(0);
            return y;
        });
        stained.isThrown("stained", REFUSED, y -> y.iron(0, 0));
        stained.isAllowed("bleached", y -> {
            y.bleach(0);
            y.iron(0, 0);
        });
    }

    private static void bleach() {
        String text = "line 1;colour 0;colour 0;colour 0;colour 0;colour 0;colour 4;nation 0 1 0;nation 0 1 0;nation 0 1 0;nation 0 1 0;tub 2;"
                + "flag 0 3 0 5;flag 0 3 0 0 1 2 3 4;flag 3 3 0 0;put 0 0;put 1 0;wash 0 0";
        Twins x = handedOver(text);
        x.isAllowed("five stains", y -> due.is("bleach", y.bleach(0), 5));
        x.isThrown("no stains", REFUSED, y -> y.bleach(1));
        x.isThrown("handed over", REFUSED, y -> y.bleach(2));
        Twins line = Twins.lived(due, text + ";hang 0");
        line.isThrown("on the line", REFUSED, y -> y.bleach(0));
        Twins tub = Twins.lived(due, text + ";put 0 0");
        tub.isThrown("in a tub", REFUSED, y -> y.bleach(0));
        for (int bleached = 1; bleached <= 2; bleached++) {
            int times = bleached;
            Twins again = new Twins(due, () -> {
                FlagLaundry y = Due.of(text);
                for (int k = 0; k < times; k++) {
                    y.bleach(0);
                    y.put(0, 0);
                    y.put(1, 0);
                    y.wash(0, 0);
                }
                return y;
            });
            if (bleached == 1) {
                again.isAllowed("a second time", y -> y.bleach(0));
                again.isThrown("no stains", REFUSED, y -> y.bleach(1));
            } else {
                again.isThrown("a third time", REFUSED, y -> y.bleach(0));
            }
        }
    }

    /** Nation 0 has two flags; one thing is in the way each time. */
    private static void handOver() {
        String two = SETUP + ";flag 0 3 0 0;flag 1 3 9 0;flag 0 3 0 5";
        Twins.lived(due, two).isAllowed("all are ready", y -> due.is("handOver", y.handOver(0), 2));
        Twins.lived(due, two.replace("flag 0 3 0 5", "flag 0 3 1 5")).isThrown("the last one is dirty", REFUSED, y -> y.handOver(0));
        Twins.lived(due, two.replace("flag 0 3 0 0", "flag 0 3 1 0")).isThrown("the first one is dirty", REFUSED, y -> y.handOver(0));
        Twins.lived(due, two + ";hang 2").isThrown("one is on the line", REFUSED, y -> y.handOver(0));
        Twins.lived(due, two + ";put 2 2").isThrown("one is in a tub", REFUSED, y -> y.handOver(0));
        Twins wet = new Twins(due, () -> {
            FlagLaundry y = Due.of(two + ";put 2 0;wash 0 0;hang 2;pass 8");
            y.takeDown(2);
            y.iron(2, 0);
            return y;
        });
        wet.isThrown("WET 1", REFUSED, y -> y.handOver(0));
        wet.isAllowed("WET 0", y -> {
            y.hang(2);
            y.pass(1);
            y.takeDown(2);
            y.handOver(0);
        });
        Twins creased = new Twins(due, () -> {
            FlagLaundry y = Due.of(two + ";put 2 0;wash 0 0;hang 2;pass 9");
            y.takeDown(2);
            return y;
        });
        creased.isThrown("CREASE 1", REFUSED, y -> y.handOver(0));
        creased.isAllowed("CREASE 0", y -> {
            y.iron(2, 0);
            y.handOver(0);
        });
    }

    private static void handOverOfNone() {
        String two = SETUP + ";flag 0 3 0 0;flag 3 3 0 0";
        Twins.lived(due, two).isThrown("it has no flags", REFUSED, y -> y.handOver(2));
        Twins over = handedOver(two);
        over.isThrown("they were handed over", REFUSED, y -> y.handOver(3));
        over.isAllowed("others weren't", y -> y.handOver(0));
        over.isAllowed("it was undone", y -> {
            y.undo();
            y.handOver(3);
        });
        over.isThrown("a flag more of it", REFUSED, y -> y.addFlag(3, 1, 0, 0));
        over.isAllowed("a flag more of another one", y -> due.is("addFlag", y.addFlag(0, 1, 0, 0), 2));
        over.isAllowed("the first flag of another one", y -> {
            due.is("addFlag", y.addFlag(2, 1, 0, 0), 2);
            y.handOver(2);
        });
        Twins none = Twins.lived(due, LEAST);
        none.isThrown("no flags at all", REFUSED, y -> y.handOver(0));
    }

    private static void passAndWind() {
        Twins x = Twins.lived(due, flags(3, "0 3 9 0") + ";put 0 0;wash 0 0;hang 0;hang 1;wind 9");
        x.isThrown("no hours", REFUSED, y -> y.pass(0));
        x.isThrown("51 hours", REFUSED, y -> y.pass(51));
        x.isAllowed("an hour", y -> due.is("pass", y.pass(1), 1));
        x.isAllowed("50 hours", y -> {
            int hour = y.count(5);
            due.is("pass", y.pass(50), 2);
            due.is("HOUR", y.count(5), hour + 50);
            y.undo();
            due.is("one change, however many hours", y.count(5), hour);
        });
        x.isThrown("WIND 10", REFUSED, y -> y.setWind(10));
        x.isThrown("WIND -1", REFUSED, y -> y.setWind(-1));
        x.isAllowed("WIND 0", y -> due.is("setWind", y.setWind(0), 9));
        x.isAllowed("WIND 9", y -> due.is("setWind", y.setWind(9), 9));
    }

    /** As many hours, washes and falls as the calls that an object is used for can make: no number wraps around. */
    private static void manyTimes() {
        FlagLaundry x = Due.of(SETUP + ";flag 0 0 0 0;flag 3 0 0 0;flag 3 0 0 0");
        for (int k = 1; k <= 450; k++) {
            x.pass(50);
        }
        due.is("HOUR", x.count(5), 22500);
        due.is("late, DUE 0", x.nation(0, 6), 22500);
        due.is("late, DUE 99", x.nation(1, 6), 22401);
        due.is("payIf, FINE 9", x.payIf(3, 99), 0);
        due.is("payIf, FINE 0", x.payIf(0, 99), 1);
        due.is("latest, FINE 9", x.latest(3), -1);
        due.is("dearest", x.dearest(), -1);
        due.is("handOver, FINE 9", x.handOver(3), 0);
        due.is("FINED", x.count(12), 18);
        due.is("save", x.save(0), 22500);
        due.is("handOver, FINE 0", x.handOver(0), 1);
        due.is("EARNED", x.count(11), 1);
        due.is("late when handed over", x.nation(3, 6), 22499);
        due.is("gap", x.gap(), 0);
        due.is("restore", x.restore(0), 22500);
        FlagLaundry y = Due.of(LEAST + ";flag 0 3 9 0");
        for (int k = 1; k <= 240; k++) {
            y.put(0, 0);
            y.wash(0, 0);
        }
        due.is("washes", y.count(13), 240);
        due.is("CREASE", y.flag(0, 5), 9);
        due.is("DIRT", y.flag(0, 3), 0);
        FlagLaundry z = Due.of(LEAST + ";flag 0 3 0 0;wind 7");
        for (int k = 1; k <= 240; k++) {
            z.hang(0);
            z.pass(1);
        }
        due.is("falls", z.count(14), 240);
        due.is("HOUR", z.count(5), 240);
        due.is("DIRT", z.flag(0, 3), 9);
    }

    private static void addFlag() {
        FlagLaundry x = Due.of(SETUP);
        for (int f = 0; f <= 11; f++) {
            due.is("addFlag", x.addFlag(f % 4, 63, 3, 9), f);
            due.is("flags", x.count(4), f + 1);
        }
        Twins full = Twins.lived(due, flags(12, "0 3 0 0"));
        full.isThrown("a 13th", REFUSED, y -> y.addFlag(0, 1, 0, 0));
        full.isThrown("a 13th", REFUSED, y -> y.addFlag(3, 63, 3, 9));
        Twins eleven = Twins.lived(due, flags(11, "0 3 0 0"));
        eleven.isAllowed("a 12th", y -> {
            due.is("addFlag", y.addFlag(3, 32, 2, 8), 11);
            int[] want = {3, 32, 2, 8, 0, 0, 0, 0, 0, -1};
            for (int what = 0; what <= 9; what++) {
                due.is("flag(11, " + what + ")", y.flag(11, what), want[what]);
            }
            due.refused("a 13th", () -> y.addFlag(3, 32, 2, 8));
            y.undo();
            due.outOfBounds("flag 11", () -> y.flag(11, 0));
            due.is("a 12th again", y.addFlag(0, 1, 0, 0), 11);
        });
        eleven.isUndone("addFlag", y -> y.addFlag(3, 63, 3, 9));
        // Nothing is left of a flag that was there before the undo.
        FlagLaundry again = Due.of(LEAST);
        again.addFlag(0, 1, 3, 9);
        again.put(0, 0);
        again.wash(0, 3);
        again.hang(0);
        for (int k = 0; k < 4; k++) {
            again.undo();
        }
        due.is("addFlag", again.addFlag(0, 1, 0, 0), 0);
        due.is("ready", again.why(0), 0);
        due.is("the peg is free", again.freePegs(), 1);
    }
}
