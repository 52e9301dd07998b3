/** Promises 24 to 39: what will be and would be. */
public final class OutlookTest {
    private static final Due due = new Due();
    private static final String SETUP = "line 4;colour 0;colour 1;colour 2;colour 4;"
            + "nation 3 10 4;nation 0 9 0;nation 0 20 3;nation 2 1 9;tub 3;tub 1;";

    public static void main(String[] args) {
        washing();
        bestHeat();
        firstSafe();
        doNotMix();
        groups();
        purest();
        washesFor();
        drying();
        fallsIn();
        paying();
        dearest();
        ironsFor();
        twelveFlags();
        wrongArguments();
        withoutText();
        due.end();
    }

    private static void washing() {
        FlagLaundry x = Due.of(SETUP + "flag 0 0 9 0;flag 0 0 3 1 3;flag 0 3 0 0 2;put 0 0;put 1 0;put 2 0");
        isWashing(x, 0, 0, 1, 1, 8 + 2);
        isWashing(x, 0, 1, 3, 3, 6 + 0);
        isWashing(x, 0, 2, 7, 3, 4 + 0);
        isWashing(x, 0, 3, 7, 3, 2 + 0);
        isWashing(x, 1, 3, 0, 0, 0);
        due.is("nothing is changed", x.count(13), 0);
        // Stains run too, those of colours that run, and a stain is got once.
        FlagLaundry y = Due.of(SETUP + "flag 0 3 0 1;flag 0 3 0 2;flag 0 3 0 3;put 0 0;put 1 0;wash 0 1;put 1 0;put 2 0");
        due.is("stain of flag 1", y.flag(1, 6), 2);
        isWashing(y, 0, 0, 0, 0, 0);
        isWashing(y, 0, 1, 2, 1, 0);
        isWashing(y, 0, 2, 6, 1, 0);
        y.wash(0, 2);
        due.is("stains of flag 2", y.flag(2, 6), 6);
        due.is("stains of flag 1", y.flag(1, 6), 2);
        y.put(1, 0);
        y.put(2, 0);
        isWashing(y, 0, 2, 6, 0, 0);
        // Colour 0 does not run because it is the first.
        FlagLaundry z = Due.of("line 1;colour 4;colour 3;nation 0 1 0;tub 2;flag 0 0 0 0;flag 0 0 0 1;put 0 0;put 1 0");
        isWashing(z, 0, 2, 0, 0, 0);
        isWashing(z, 0, 3, 2, 1, 0);
    }

    private static void isWashing(FlagLaundry x, int t, int heat, int running, int stained, int dirt) {
        due.is("running(" + t + ", " + heat + ")", x.running(t, heat), running);
        due.is("stainedIf(" + t + ", " + heat + ")", x.stainedIf(t, heat), stained);
        due.is("dirtIf(" + t + ", " + heat + ")", x.dirtIf(t, heat), dirt);
    }

    private static void bestHeat() {
        FlagLaundry x = Due.of(SETUP + "flag 0 3 4 1;flag 0 3 9 3;flag 0 1 0 3");
        due.is("empty", x.bestHeat(0), -1);
        x.put(0, 0);
        due.is("the smallest of those with no DIRT", x.bestHeat(0), 2);
        x.put(1, 0);
        due.is("fewest stains", x.bestHeat(0), 0);
        x.takeDown(0);
        due.is("least DIRT", x.bestHeat(0), 3);
        x.put(2, 0);
        due.is("all bear it", x.bestHeat(0), 1);
        FlagLaundry y = Due.of(SETUP + "flag 0 3 0 0 3;flag 0 3 9 2;put 0 0;put 1 0");
        // At HEAT 0 and 1 one flag is stained, at 2 and 3 both are.
        due.is("fewest first, then DIRT", y.bestHeat(0), 1);
        FlagLaundry z = Due.of(SETUP + "flag 0 3 0 0;put 0 0");
        due.is("the smallest", z.bestHeat(0), 0);
    }

    private static void firstSafe() {
        FlagLaundry x = Due.of(SETUP + "flag 0 3 4 2;flag 0 0 9 3;flag 0 2 0 2;flag 0 3 0 3;flag 0 3 0 0");
        due.is("alone", x.firstSafe(0, 0), 0);
        x.put(0, 0);
        due.is("at HEAT 0 nothing runs of 2", x.firstSafe(0, 0), 1);
        due.is("it bears HEAT 1", x.firstSafe(0, 1), 2);
        due.is("the same colour", x.firstSafe(0, 2), 2);
        due.is("none", x.firstSafe(0, 3), -1);
        x.put(1, 0);
        due.is("one in it does not bear it", x.firstSafe(0, 1), -1);
        due.is("at HEAT 0", x.firstSafe(0, 0), 2);
        x.put(2, 0);
        due.is("no room", x.firstSafe(0, 0), -1);
        x.put(3, 1);
        due.is("no room in the other", x.firstSafe(1, 0), -1);
        // Those in it must not stain one another either.
        FlagLaundry y = Due.of(SETUP + "flag 0 3 0 2;flag 0 3 0 3;flag 0 3 0 3;put 0 0;put 1 0");
        due.is("they stain anyway", y.firstSafe(0, 2), -1);
        due.is("not so cold", y.firstSafe(0, 1), 2);
        // A stain that runs is not safe either: flag 0 has one by colour 1.
        FlagLaundry z = Due.of(SETUP + "flag 0 3 0 3;flag 0 3 0 1;flag 0 3 0 3;put 0 0;put 1 0;wash 0 1;put 2 0");
        due.is("its stain runs", z.firstSafe(0, 1), -1);
        due.is("its stain does not run", z.firstSafe(0, 0), 0);
    }

    private static void doNotMix() {
        FlagLaundry x = Due.of(SETUP + "flag 0 0 0 0;flag 0 3 0 3;flag 1 0 0 1;flag 1 3 0 3");
        due.is("first", x.doNotMix(0, 1, 0), 1);
        due.is("other", x.doNotMix(1, 0, 0), 2);
        due.is("one runs", x.doNotMix(0, 2, 0), 1);
        due.is("both run", x.doNotMix(0, 2, 1), 3);
        due.is("none runs", x.doNotMix(1, 3, 3), 0);
        due.is("the same", x.doNotMix(0, 0, 3), 0);
        x.put(0, 0);
        x.put(1, 0);
        x.wash(0, 0);
        due.is("stained already", x.doNotMix(0, 1, 0), 0);
        due.is("a stain stains", x.doNotMix(1, 3, 0), 1);
        due.is("of itself", x.doNotMix(1, 1, 3), 0);
        x.hang(1);
        due.is("wherever they are", x.doNotMix(3, 1, 0), 2);
        due.outOfBounds("doNotMix(4, 0, 0)", () -> x.doNotMix(4, 0, 0));
        due.outOfBounds("doNotMix(0, 4, 9)", () -> x.doNotMix(0, 4, 9));
        due.outOfBounds("doNotMix(-1, 0, 0)", () -> x.doNotMix(-1, 0, 0));
        due.outOfBounds("doNotMix(0, -1, 0)", () -> x.doNotMix(0, -1, 0));
        due.refused("doNotMix(0, 1, 4)", () -> x.doNotMix(0, 1, 4));
        due.refused("doNotMix(0, 0, -1)", () -> x.doNotMix(0, 0, -1));
    }

    private static void groups() {
        FlagLaundry x = Due.of(SETUP + "flag 0 3 1 2;flag 0 3 1 3;flag 0 3 1 2;flag 0 3 0 1;flag 0 1 1 1;flag 0 3 1 3");
        due.is("cold, all together", x.groups(0), 1);
        due.is("1: colour 1 alone", x.groups(1), 2);
        due.is("2: colours 2 and 3 apart", x.groups(2), 2);
        due.is("3", x.groups(3), 2);
        x.hang(1);
        x.put(5, 0);
        due.is("without those of colour 3", x.groups(2), 1);
        x.put(0, 0);
        x.put(2, 0);
        due.is("none bears it", x.groups(2), 0);
        // Flag 1 mixes with 0, so 2 goes to the first group with 0, and 3 to the second with 1.
        FlagLaundry y = Due.of(SETUP + "flag 0 3 1 0 3;flag 0 3 1 1 3;flag 0 3 1 0;flag 0 3 1 1;flag 0 3 1 3;flag 0 3 1 2 1 0");
        due.is("first that fits", y.groups(1), 4);
        due.refused("groups(4)", () -> x.groups(4));
        due.refused("groups(-1)", () -> x.groups(-1));
    }

    private static void purest() {
        FlagLaundry x = Due.of(SETUP + "flag 0 3 1 0;flag 0 3 1 3;flag 0 3 1 3;flag 0 0 0 0 3");
        // At HEAT 0, flag 0 stains 1 and 2, and 3 stains 1 and 2; 0 and 3 do not mix in.
        due.is("all mix with two", x.purest(0), 0);
        x.hang(0);
        due.is("1 and 2 mix with 3 alone", x.purest(0), 1);
        x.put(1, 0);
        x.put(2, 0);
        due.is("the last one", x.purest(3), 3);
        x.put(3, 0);
        due.is("an empty basket", x.purest(3), -1);
        FlagLaundry y = Due.of(SETUP + "flag 0 3 1 0;flag 0 3 1 1;flag 0 3 1 1");
        due.is("fewest", y.purest(0), 1);
        due.refused("purest(4)", () -> x.purest(4));
        due.refused("purest(-1)", () -> x.purest(-1));
    }

    private static void washesFor() {
        FlagLaundry x = Due.of(SETUP + "flag 0 0 9 0;flag 0 1 9 0;flag 0 2 9 0;flag 0 3 9 0;flag 0 3 7 0;flag 0 2 5 0;flag 0 2 6 0;flag 0 0 0 0;flag 0 1 4 0");
        int[] want = {9, 3, 2, 2, 1, 1, 2, 0, 2};
        for (int f = 0; f < want.length; f++) {
            due.is("washesFor(" + f + ")", x.washesFor(f), want[f]);
        }
        due.outOfBounds("washesFor(9)", () -> x.washesFor(9));
        due.outOfBounds("washesFor(-1)", () -> x.washesFor(-1));
    }

    private static void drying() {
        FlagLaundry x = Due.of(SETUP + "flag 0 0 9 0;flag 0 0 9 0;flag 0 0 9 0;flag 0 0 0 0;"
                + "put 0 0;put 1 0;put 2 0;wash 0 0");
        due.is("in the basket", x.dryIn(0), -1);
        due.is("in the basket, dry", x.dryIn(3), -1);
        x.hang(0);
        x.hang(1);
        x.hang(2);
        x.hang(3);
        int[] hours = {9, 9, 9, 5, 5, 5, 3};
        for (int wind = 0; wind < hours.length; wind++) {
            due.is("dryByWind(0, " + wind + ")", x.dryByWind(0, wind), hours[wind]);
            x.setWind(wind);
            due.is("dryIn(0) with " + wind, x.dryIn(0), hours[wind]);
        }
        // Behind peg 0 three fall before it, so it falls in hour 4; behind peg 1 in hour 3, peg 2 in hour 2.
        due.is("falls later", x.dryByWind(0, 7), 3);
        due.is("falls in that hour", x.dryByWind(1, 7), 3);
        due.is("falls first", x.dryByWind(2, 7), -1);
        due.is("falls first by WIND 9", x.dryByWind(2, 9), -1);
        due.is("by WIND 9", x.dryByWind(1, 9), 3);
        due.is("is dry", x.dryByWind(3, 9), 0);
        x.takeDown(3);
        due.is("now it falls first", x.dryByWind(1, 8), -1);
        x.setWind(8);
        due.is("dryIn", x.dryIn(0), 3);
        due.is("dryIn", x.dryIn(1), -1);
        x.pass(1);
        due.is("an hour later", x.dryIn(0), 2);
        due.is("an hour later", x.dryIn(1), -1);
        x.put(3, 0);
        due.is("in a tub", x.dryIn(3), -1);
        due.outOfBounds("dryIn(4)", () -> x.dryIn(4));
        due.outOfBounds("dryIn(-1)", () -> x.dryIn(-1));
        due.outOfBounds("dryByWind(4, 10)", () -> x.dryByWind(4, 10));
        due.refused("dryByWind(3, 10)", () -> x.dryByWind(3, 10));
        due.refused("dryByWind(0, -1)", () -> x.dryByWind(0, -1));
    }

    private static void fallsIn() {
        FlagLaundry x = Due.of(SETUP + "flag 0 0 9 0;flag 0 0 9 0;flag 0 0 9 0;hang 0;hang 2");
        due.is("fallsIn", x.fallsIn(99), 0);
        x.setWind(6);
        due.is("fallsIn", x.fallsIn(99), 0);
        x.setWind(7);
        due.is("fallsIn", x.fallsIn(0), 0);
        due.is("fallsIn", x.fallsIn(1), 1);
        due.is("fallsIn", x.fallsIn(2), 2);
        due.is("fallsIn", x.fallsIn(99), 2);
        due.is("pass", x.pass(50), 2);
        due.is("fallsIn", x.fallsIn(5), 0);
        due.refused("fallsIn(100)", () -> x.fallsIn(100));
        due.refused("fallsIn(-1)", () -> x.fallsIn(-1));
    }

    private static void paying() {
        // Nation 0: due 3, fee 10, fine 4; 1: due 0, fee 9, fine 0; 2: without flags; 3: due 2, fee 1, fine 9.
        FlagLaundry x = Due.of(SETUP + "flag 0 0 9 0;flag 0 0 0 0;flag 1 0 0 0;flag 3 0 0 0");
        due.is("payIf", x.payIf(0, 0), 20);
        due.is("payIf", x.payIf(0, 3), 20);
        due.is("payIf", x.payIf(0, 4), 12);
        due.is("payIf", x.payIf(0, 5), 4);
        due.is("payIf", x.payIf(0, 6), 0);
        due.is("payIf", x.payIf(0, 99), 0);
        due.is("payIf", x.payIf(1, 99), 9);
        due.is("payIf", x.payIf(2, 0), 0);
        due.is("latest", x.latest(0), 5);
        due.is("latest", x.latest(1), 999);
        due.is("latest without flags", x.latest(2), -1);
        due.is("latest", x.latest(3), 2);
        x.pass(2);
        due.is("payIf", x.payIf(0, 2), 12);
        due.is("that hour is now", x.latest(3), 2);
        x.pass(1);
        due.is("that hour is past", x.latest(3), -1);
        due.is("latest", x.latest(0), 5);
        x.handOver(1);
        due.is("handed over", x.payIf(1, 0), 0);
        due.is("handed over", x.latest(1), -1);
        // 9 up to hour 7, then 6, 3 and, from hour 10 on, 0.
        due.is("FINE divides FEE", Due.of("line 1;colour 0;nation 7 9 3;tub 1;flag 0 0 0 0").latest(0), 9);
        due.outOfBounds("payIf(4, 0)", () -> x.payIf(4, 0));
        due.outOfBounds("payIf(-1, 100)", () -> x.payIf(-1, 100));
        due.refused("payIf(0, 100)", () -> x.payIf(0, 100));
        due.refused("payIf(2, -1)", () -> x.payIf(2, -1));
        due.outOfBounds("latest(4)", () -> x.latest(4));
        due.outOfBounds("latest(-1)", () -> x.latest(-1));
    }

    private static void dearest() {
        FlagLaundry x = Due.of(SETUP + "flag 0 0 0 0;flag 0 0 9 0;flag 2 0 0 0;flag 2 0 0 0;flag 3 0 0 0");
        due.is("nation 2 loses 6 from now on", x.dearest(), 2);
        x.pass(2);
        due.is("still", x.dearest(), 2);
        x.pass(1);
        due.is("nation 0 loses 8", x.dearest(), 0);
        x.pass(2);
        due.is("nation 0 would lose 4 at most", x.dearest(), 2);
        x.pass(2);
        due.is("nation 2 loses nothing more", x.dearest(), -1);
        FlagLaundry z = Due.of("line 1;colour 0;nation 0 9 1;nation 0 9 0;tub 1;flag 1 0 0 0;flag 0 0 0 0");
        due.is("it loses 1", z.dearest(), 0);
        FlagLaundry y = Due.of("line 1;colour 0;nation 0 9 2;nation 0 9 1;nation 0 9 2;tub 1;"
                + "flag 0 0 0 0;flag 1 0 0 0;flag 1 0 0 0;flag 2 0 0 0");
        due.is("the smallest number", y.dearest(), 0);
        y.handOver(0);
        due.is("not handed over", y.dearest(), 1);
        y.handOver(1);
        due.is("not handed over", y.dearest(), 2);
        y.handOver(2);
        due.is("none", y.dearest(), -1);
    }

    private static void ironsFor() {
        FlagLaundry x = Due.of(SETUP + "flag 0 3 0 0;flag 0 2 0 0;flag 0 3 0 0 3;put 0 0;put 1 0;wash 0 2;"
                + "put 0 0;wash 0 3;hang 0;hang 1");
        due.is("on the line", x.ironsFor(0, 0), -1);
        due.is("CREASE 0", x.ironsFor(2, 3), 0);
        x.pass(6);
        x.takeDown(0);
        x.takeDown(1);
        // Flag 0: CREASE 7, WET 3. HEAT 0: 2 an iron, as WET stays. HEAT 1: 7, 4, 1, 0. HEAT 2: 7, 3, 0. HEAT 3: 7, 2, 0.
        due.is("CREASE", x.flag(0, 5), 7);
        int[] want = {4, 3, 2, 2};
        for (int heat = 0; heat <= 3; heat++) {
            due.is("ironsFor(0, " + heat + ")", x.ironsFor(0, heat), want[heat]);
        }
        due.is("does not bear it", x.ironsFor(1, 3), -1);
        x.hang(2);
        due.is("CREASE 0 on the line", x.ironsFor(2, 0), -1);
        due.outOfBounds("ironsFor(3, 0)", () -> x.ironsFor(3, 0));
        due.outOfBounds("ironsFor(-1, 4)", () -> x.ironsFor(-1, 4));
        due.refused("ironsFor(0, 4)", () -> x.ironsFor(0, 4));
        due.refused("ironsFor(0, -1)", () -> x.ironsFor(0, -1));
        // CREASE 9, dry: an iron takes 1 and HEAT away.
        FlagLaundry y = Due.of(SETUP + "flag 0 3 0 0;put 0 0;wash 0 3;put 0 0;wash 0 3;put 0 0;wash 0 3;hang 0;pass 9");
        y.takeDown(0);
        int[] dry = {9, 5, 3, 3};
        for (int heat = 0; heat <= 3; heat++) {
            due.is("ironsFor(0, " + heat + ") of a dry one", y.ironsFor(0, heat), dry[heat]);
        }
    }

    /** With as many flags as there can be, and after one was taken back. */
    private static void twelveFlags() {
        StringBuilder text = new StringBuilder("line 8;colour 0;colour 1;nation 9 5 1;tub 6");
        for (int f = 0; f < 11; f++) {
            text.append(";flag 0 3 1 ").append(f % 2);
        }
        FlagLaundry x = Due.of(text.toString());
        isAsMany(x, 11);
        x.addFlag(0, 2, 3, 1);
        isAsMany(x, 12);
        x.undo();
        isAsMany(x, 11);
        x.put(0, 0);
        x.wash(0, 0);
        due.is("hangAll", x.hangAll(), 1);
        due.is("wettest", x.wettest(), 0);
        due.is("it was washed", x.meanDirt(), 10.0 / 11.0);
        FlagLaundry y = Due.of(text.toString().replace(" 3 1 ", " 3 0 ") + ";flag 0 0 0 0");
        due.is("ready", y.count(15), 12);
        due.is("handOver", y.handOver(0), 60);
        due.is("handed over", y.count(10), 12);
        due.is("gap", y.gap(), 0);
    }

    private static void isAsMany(FlagLaundry x, int flags) {
        due.is("flags", x.count(4), flags);
        due.is("in the basket", x.count(7), flags);
        due.is("of the nation", x.nation(0, 3), flags);
        due.is("ready", x.count(15), 0);
        due.is("ready of the nation", x.nation(0, 4), 0);
        due.is("culprit", x.culprit(0), 0);
        due.is("of colour 0", x.colour(0, 1), 6);
        due.is("of colour 1", x.colour(1, 1), flags - 6);
        due.is("stained", x.colour(0, 2) + x.colour(1, 2), 0);
        due.is("groups(0)", x.groups(0), 2);
        due.is("purest(0)", x.purest(0), 0);
        due.is("firstSafe(0, 0)", x.firstSafe(0, 0), 0);
        due.is("wettest", x.wettest(), -1);
        due.is("payIf", x.payIf(0, 0), 5 * flags);
        due.is("meanDirt", x.meanDirt(), 1.0);
        due.is("readyShare", x.readyShare(), 0.0f);
        due.is("gap", x.gap(), 0);
        due.is("hangAll", x.hangAll(), 0);
        due.is("pass", x.pass(1), 0);
        x.undo();
        x.undo();
    }

    private static void wrongArguments() {
        FlagLaundry x = Due.of(SETUP + "flag 0 3 0 0;put 0 0");
        due.outOfBounds("running(2, 0)", () -> x.running(2, 0));
        due.outOfBounds("running(-1, 4)", () -> x.running(-1, 4));
        due.refused("running(0, 4)", () -> x.running(0, 4));
        due.refused("running(1, -1)", () -> x.running(1, -1));
        due.outOfBounds("stainedIf(2, 0)", () -> x.stainedIf(2, 0));
        due.outOfBounds("stainedIf(-1, 4)", () -> x.stainedIf(-1, 4));
        due.refused("stainedIf(0, 4)", () -> x.stainedIf(0, 4));
        due.refused("stainedIf(1, -1)", () -> x.stainedIf(1, -1));
        due.outOfBounds("dirtIf(2, 0)", () -> x.dirtIf(2, 0));
        due.outOfBounds("dirtIf(-1, 4)", () -> x.dirtIf(-1, 4));
        due.refused("dirtIf(0, 4)", () -> x.dirtIf(0, 4));
        due.refused("dirtIf(1, -1)", () -> x.dirtIf(1, -1));
        due.outOfBounds("bestHeat(2)", () -> x.bestHeat(2));
        due.outOfBounds("bestHeat(-1)", () -> x.bestHeat(-1));
        due.outOfBounds("firstSafe(2, 0)", () -> x.firstSafe(2, 0));
        due.outOfBounds("firstSafe(-1, 4)", () -> x.firstSafe(-1, 4));
        due.refused("firstSafe(0, 4)", () -> x.firstSafe(0, 4));
        due.refused("firstSafe(1, -1)", () -> x.firstSafe(1, -1));
    }

    private static void withoutText() {
        FlagLaundry x = new FlagLaundry();
        due.noText("running", () -> x.running(0, 9));
        due.noText("stainedIf", () -> x.stainedIf(0, 9));
        due.noText("dirtIf", () -> x.dirtIf(0, 9));
        due.noText("bestHeat", () -> x.bestHeat(0));
        due.noText("firstSafe", () -> x.firstSafe(0, 9));
        due.noText("doNotMix", () -> x.doNotMix(0, 0, 9));
        due.noText("groups", () -> x.groups(9));
        due.noText("purest", () -> x.purest(9));
        due.noText("washesFor", () -> x.washesFor(0));
        due.noText("dryIn", () -> x.dryIn(0));
        due.noText("dryByWind", () -> x.dryByWind(0, 99));
        due.noText("fallsIn", () -> x.fallsIn(-1));
        due.noText("payIf", () -> x.payIf(0, -1));
        due.noText("latest", () -> x.latest(0));
        due.noText("dearest", x::dearest);
        due.noText("ironsFor", () -> x.ironsFor(0, 9));
    }
}
