/** Promises 7 to 23, and sections 1 to 6: what is told of empty and full laundries, and where numbers stop. */
public final class LaundryBoundsTest {
    private static final Due due = new Due();
    private static final String LEAST = "line 1;colour 0;nation 0 1 0;tub 1";
    private static final String SETUP = "line 8;colour 0;colour 1;colour 2;colour 3;colour 4;colour 0;"
            + "nation 0 1 0;nation 99 99 9;nation 5 20 3;nation 1 9 9;tub 6;tub 2;tub 1";

    public static void main(String[] args) {
        countsOfNothing();
        countsOfAll();
        colours();
        nations();
        flags();
        tubs();
        pegs();
        ready();
        runs();
        stainsRun();
        ownColoursAndOldStains();
        dirtOfWash();
        wetAndCreaseOfWash();
        drying();
        falling();
        ironing();
        paying();
        whyInOrder();
        culprit();
        whyNotPut();
        whyNotWash();
        whyNotIron();
        whyNotBleach();
        due.end();
    }

    private static String flags(int flags, String told) {
        return SETUP + (";flag " + told).repeat(flags);
    }

    private static void isCounts(FlagLaundry x, int... want) {
        for (int what = 0; what < want.length; what++) {
            due.is("count(" + what + ")", x.count(what), want[what]);
        }
    }

    private static void isFlag(String name, FlagLaundry x, int f, int... want) {
        for (int what = 0; what < want.length; what++) {
            due.is(name + ", flag(" + f + ", " + what + ")", x.flag(f, what), want[what]);
        }
    }

    // Promise 7

    private static void countsOfNothing() {
        isCounts(Due.of(LEAST), 1, 1, 1, 1, 0, 0, 0, 0, 0, 0, 0, 0, 0, 0, 0, 0);
    }

    private static void countsOfAll() {
        FlagLaundry x = Due.of(flags(12, "1 3 0 0"));
        isCounts(x, 6, 4, 3, 8, 12, 0, 0, 12, 0, 0, 0, 0, 0, 0, 0, 12);
        for (int f = 0; f < 6; f++) {
            x.put(f, 0);
        }
        x.put(6, 1);
        x.put(7, 1);
        x.put(8, 2);
        isCounts(x, 6, 4, 3, 8, 12, 0, 0, 3, 9, 0, 0, 0, 0, 0, 0, 3);
        x.clearTub(0);
        x.clearTub(1);
        for (int f = 0; f < 8; f++) {
            x.hang(f);
        }
        isCounts(x, 6, 4, 3, 8, 12, 0, 0, 3, 1, 8, 0, 0, 0, 0, 0, 3);
        x.setWind(9);
        due.is("all fall", x.pass(8), 8);
        isCounts(x, 6, 4, 3, 8, 12, 8, 9, 11, 1, 0, 0, 0, 0, 0, 8, 3);
        // One flag can fall often.
        FlagLaundry y = Due.of(LEAST + ";flag 0 0 0 0;wind 7;hang 0;pass 50;hang 0;pass 1");
        isCounts(y, 1, 1, 1, 1, 1, 51, 7, 1, 0, 0, 0, 0, 0, 0, 2, 0);
        // All are handed over for the greatest FEE: 12 times 99.
        FlagLaundry z = Due.of(flags(12, "1 3 0 0"));
        due.is("handOver", z.handOver(1), 1188);
        isCounts(z, 6, 4, 3, 8, 12, 0, 0, 0, 0, 0, 12, 1188, 0, 0, 0, 0);
        FlagLaundry late = Due.of(flags(12, "1 3 0 0") + ";pass 50;pass 50;pass 10");
        due.is("handOver for nothing", late.handOver(1), 0);
        isCounts(late, 6, 4, 3, 8, 12, 110, 0, 0, 0, 0, 12, 0, 1188, 0, 0, 0);
        due.is("gap", late.gap(), 0);
        // Washes count, whatever comes of them, those of the text too.
        FlagLaundry w = Due.of(LEAST + ";flag 0 3 0 0;put 0 0;wash 0 0;put 0 0;wash 0 0");
        w.put(0, 0);
        w.wash(0, 3);
        due.is("washes", w.count(13), 3);
    }

    // Promises 8 to 14, and section 1

    private static void colours() {
        FlagLaundry x = Due.of(LEAST);
        due.is("RUNS", x.colour(0, 0), 0);
        due.is("no flag has it", x.colour(0, 1), 0);
        due.is("no flag is stained by it", x.colour(0, 2), 0);
        FlagLaundry y = Due.of(flags(11, "0 3 0 5") + ";flag 0 3 0 0;put 11 0;put 0 0;put 1 0;put 2 0;put 3 0;put 4 0;wash 0 0"
                + ";put 11 0;put 5 0;put 6 0;put 7 0;put 8 0;put 9 0;wash 0 0;put 11 1;put 10 1;wash 1 0");
        int[] runs = {0, 1, 2, 3, 4, 0};
        int[] have = {1, 0, 0, 0, 0, 11};
        int[] stained = {11, 0, 0, 0, 0, 1};
        for (int c = 0; c <= 5; c++) {
            due.is("RUNS of " + c, y.colour(c, 0), runs[c]);
            due.is("have " + c, y.colour(c, 1), have[c]);
            due.is("stained by " + c, y.colour(c, 2), stained[c]);
        }
        FlagLaundry z = Due.of(flags(12, "0 0 0 5 0"));
        due.is("all have it", z.colour(5, 1), 12);
        due.is("all have it", z.colour(0, 1), 12);
        z.hang(0);
        z.put(1, 0);
        due.is("wherever they are", z.colour(5, 1), 12);
        z.takeDown(0);
        z.takeDown(1);
        z.handOver(0);
        due.is("handed over too", z.colour(5, 1), 12);
        due.is("handed over too", z.colour(0, 1), 12);
        due.is("of which none is stained", z.colour(0, 2), 0);
    }

    private static void nations() {
        FlagLaundry x = Due.of(flags(12, "3 3 0 0"));
        int[] told = {1, 9, 9, 12, 12, 0, 0};
        for (int what = 0; what <= 6; what++) {
            due.is("nation(3, " + what + ")", x.nation(3, what), told[what]);
            due.is("nation(0, " + what + ")", x.nation(0, what), what == 1 ? 1 : 0);
        }
        x.pass(1);
        due.is("at DUE it is not late", x.nation(3, 6), 0);
        due.is("DUE 0: it is late by an hour", x.nation(0, 6), 1);
        x.pass(1);
        due.is("an hour later it is", x.nation(3, 6), 1);
        due.is("none is handed over", x.nation(3, 5), 0);
        x.handOver(3);
        x.pass(50);
        due.is("all are handed over", x.nation(3, 5), 1);
        due.is("none is ready then", x.nation(3, 4), 0);
        due.is("they are its flags still", x.nation(3, 3), 12);
        due.is("as late as it was", x.nation(3, 6), 1);
        x.undo();
        x.undo();
        due.is("it was undone", x.nation(3, 5), 0);
        FlagLaundry y = Due.of(flags(1, "1 3 0 0") + ";pass 50;pass 49");
        due.is("99 is not late", y.nation(1, 6), 0);
        y.pass(1);
        due.is("100 is late", y.nation(1, 6), 1);
        y.undo();
        y.handOver(1);
        y.pass(50);
        due.is("late by 0 when handed over", y.nation(1, 6), 0);
        due.is("handed over though late by 0", y.nation(1, 5), 1);
    }

    private static void flags() {
        FlagLaundry x = Due.of(SETUP + ";flag 0 0 0 0;flag 3 3 9 5 4 3 2 1 0;flag 0 3 9 0");
        isFlag("all the least", x, 0, 0, 1, 0, 0, 0, 0, 0, 0, 0, -1);
        isFlag("all the greatest", x, 1, 3, 63, 3, 9, 0, 0, 0, 0, 0, -1);
        x.put(0, 0);
        isFlag("in tub 0", x, 0, 0, 1, 0, 0, 0, 0, 0, 0, 1, 0);
        x.put(1, 2);
        isFlag("in tub 2", x, 1, 3, 63, 3, 9, 0, 0, 0, 0, 1, 2);
        x.wash(0, 0);
        isFlag("in the basket, wet", x, 0, 0, 1, 0, 0, 9, 1, 0, 0, 0, -1);
        x.hang(0);
        isFlag("on peg 0", x, 0, 0, 1, 0, 0, 9, 1, 0, 0, 2, 0);
        // Of six colours five run at most, as RUNS of colour 4 is above all HEAT.
        FlagLaundry y = Due.of(SETUP + ";flag 0 3 9 0;flag 0 3 9 5 4 3 2 1;put 0 0;put 1 0;wash 0 3");
        isFlag("stained by four", y, 0, 0, 1, 3, 2, 9, 4, 0b101110, 0, 0, -1);
        isFlag("stained by one", y, 1, 0, 62, 3, 2, 9, 4, 1, 0, 0, -1);
        y.bleach(0);
        isFlag("bleached once", y, 0, 0, 1, 3, 2, 9, 4, 0, 1, 0, -1);
        FlagLaundry z = Due.of(flags(8, "0 0 0 0") + ";hang 0;hang 1;hang 2;hang 3;hang 4;hang 5;hang 6;hang 7");
        isFlag("on peg 7", z, 7, 0, 1, 0, 0, 0, 0, 0, 0, 2, 7);
        FlagLaundry over = Due.of(flags(1, "0 0 0 0"));
        over.handOver(0);
        isFlag("handed over", over, 0, 0, 1, 0, 0, 0, 0, 0, 0, 3, -1);
    }

    private static void tubs() {
        FlagLaundry x = Due.of(flags(6, "0 3 9 5 4 3 2 1 0"));
        isTub(x, 0, 6, 0, 3, 0, 0);
        isTub(x, 2, 1, 0, 3, 0, 0);
        for (int f = 5; f >= 0; f--) {
            due.is("put", x.put(f, 0), 6 - f);
        }
        isTub(x, 0, 6, 6, 3, 54, 63);
        isTub(x, 1, 2, 0, 3, 0, 0);
        due.is("the first", x.inTub(0, 0), 5);
        due.is("the last", x.inTub(0, 5), 0);
        for (int i : new int[] {-1, 6, 7, 256, 1 << 16, Integer.MIN_VALUE, Integer.MAX_VALUE}) {
            due.is("inTub(0, " + i + ")", x.inTub(0, i), -1);
            due.is("inTub(1, " + i + ")", x.inTub(1, i), -1);
        }
        due.is("the first of none", x.inTub(1, 0), -1);
        x.takeDown(5);
        due.is("the first was taken out", x.inTub(0, 0), 4);
        due.is("the last one is the fifth", x.inTub(0, 4), 0);
        due.is("there is no sixth", x.inTub(0, 5), -1);
        x.takeDown(0);
        due.is("the last was taken out", x.inTub(0, 3), 1);
        due.is("there is no fifth", x.inTub(0, 4), -1);
        x.put(5, 0);
        due.is("behind all others", x.inTub(0, 4), 5);
        // One that bears nothing hot is enough.
        FlagLaundry y = Due.of(SETUP + ";flag 0 3 0 0;flag 0 0 0 4;flag 0 2 0 0;put 0 0;put 1 0;put 2 1");
        isTub(y, 0, 6, 2, 0, 0, 0b10001);
        isTub(y, 1, 2, 1, 2, 0, 1);
        y.takeDown(1);
        isTub(y, 0, 6, 1, 3, 0, 1);
        y.clearTub(0);
        isTub(y, 0, 6, 0, 3, 0, 0);
    }

    private static void isTub(FlagLaundry x, int t, int... want) {
        for (int what = 0; what < want.length; what++) {
            due.is("tub(" + t + ", " + what + ")", x.tub(t, what), want[what]);
        }
    }

    private static void pegs() {
        FlagLaundry x = Due.of(flags(9, "0 0 0 0"));
        due.is("all are free", x.freePegs(), 8);
        due.is("none hangs", x.wettest(), -1);
        for (int p = 0; p <= 7; p++) {
            due.is("peg " + p + " is free", x.onPeg(p), -1);
            due.is("hang", x.hang(8 - p), p);
            due.is("on peg " + p, x.onPeg(p), 8 - p);
            due.is("freePegs", x.freePegs(), 7 - p);
            due.is("all are dry: the smallest number", x.wettest(), 8 - p);
        }
        x.takeDown(1);
        due.is("the last peg is free", x.onPeg(7), -1);
        due.is("freePegs", x.freePegs(), 1);
        due.is("wettest", x.wettest(), 2);
        FlagLaundry y = Due.of(LEAST + ";flag 0 0 0 0");
        due.is("the one peg is free", y.freePegs(), 1);
        y.hang(0);
        due.is("it isn't", y.freePegs(), 0);
        // Of WET 9 and 9 the smallest number, of 8 and 9 the greatest WET.
        FlagLaundry z = Due.of(flags(3, "0 0 0 0") + ";put 1 0;wash 0 0;hang 1;put 2 0;wash 0 0;hang 2;hang 0");
        due.is("two of WET 9", z.wettest(), 1);
        z.takeDown(2);
        z.pass(1);
        z.hang(2);
        due.is("WET 8 and 9", z.wettest(), 2);
    }

    // Section 2, promises 15 of count, 17 and 18

    /** Each reason alone: the last number with which a flag is ready, and the first with which it isn't. */
    private static void ready() {
        String one = LEAST + ";flag 0 3 0 0";
        isReady("as it was told", Due.of(one), 0, 0);
        isReady("DIRT 1", Due.of(LEAST + ";flag 0 3 1 0"), 4, 1 << 4);
        isReady("DIRT 9", Due.of(LEAST + ";flag 0 3 9 0"), 4, 1 << 4);
        isReady("in a tub", Due.of(one + ";put 0 0"), 2, 1 << 2);
        isReady("on the line", Due.of(one + ";hang 0"), 3, 1 << 3);
        FlagLaundry over = Due.of(one);
        over.handOver(0);
        isReady("handed over", over, 1, 1 << 1);
        // CREASE 1, WET 1: an iron with HEAT 0 takes the crease and leaves the water.
        FlagLaundry wet = Due.of(one + ";put 0 0;wash 0 0;hang 0;pass 8");
        wet.takeDown(0);
        isReady("WET 1, CREASE 1", wet, 6, 1 << 6 | 1 << 7);
        wet.iron(0, 0);
        isReady("WET 1", wet, 6, 1 << 6);
        wet.hang(0);
        wet.pass(1);
        wet.takeDown(0);
        isReady("WET 0", wet, 0, 0);
        FlagLaundry creased = Due.of(one + ";put 0 0;wash 0 0;hang 0;pass 9");
        creased.takeDown(0);
        isReady("CREASE 1", creased, 7, 1 << 7);
        creased.iron(0, 0);
        isReady("CREASE 0", creased, 0, 0);
        // A stain comes with a wash, and what is stained is not ironed: it is creased too.
        FlagLaundry stained = Due.of(LEAST + ";colour 4;tub 2;flag 0 3 0 1;flag 0 3 0 0;"
                + "put 0 1;put 1 1;wash 1 0;hang 0;pass 9");
        stained.takeDown(0);
        isReady("stained", stained, 5, 1 << 5 | 1 << 7);
        stained.bleach(0);
        isReady("bleached", stained, 7, 1 << 7);
    }

    private static void isReady(String name, FlagLaundry x, int why, int reasons) {
        due.is(name + ", why", x.why(0), why);
        due.is(name + ", reasons", x.reasons(0), reasons);
        due.is(name + ", ready flags", x.count(15), why == 0 ? 1 : 0);
        due.is(name + ", ready flags of nation 0", x.nation(0, 4), why == 0 ? 1 : 0);
        due.is(name + ", culprit", x.culprit(0), why == 0 ? -1 : 0);
        due.is(name + ", readyShare", x.readyShare(), why <= 1 ? 1.0f : 0.0f);
    }

    // Section 3, promises 24, 25, 26 and 48

    /** Each RUNS with each HEAT: a colour runs if RUNS is not greater. */
    private static void runs() {
        for (int runs = 0; runs <= 4; runs++) {
            for (int heat = 0; heat <= 3; heat++) {
                FlagLaundry x = Due.of("line 1;colour " + runs + ";colour 4;nation 0 1 0;tub 2;flag 0 3 0 0;flag 0 3 0 1;put 0 0;put 1 0");
                int stained = runs <= heat ? 1 : 0;
                String name = "RUNS " + runs + ", HEAT " + heat;
                due.is(name + ", running", x.running(0, heat), stained);
                due.is(name + ", stainedIf", x.stainedIf(0, heat), stained);
                due.is(name + ", doNotMix", x.doNotMix(0, 1, heat), stained);
                due.is(name + ", doNotMix", x.doNotMix(1, 0, heat), 2 * stained);
                due.is(name + ", wash", x.wash(0, heat), stained);
                due.is(name + ", stains", x.flag(1, 6), stained);
                due.is(name + ", stains of the other one", x.flag(0, 6), 0);
            }
        }
    }

    private static void stainsRun() {
        for (int heat = 0; heat <= 3; heat++) {
            // Flag 1 has got a stain by colour 0 that runs from HEAT 2 on; flag 2 is as it was.
            FlagLaundry x = Due.of("line 1;colour 2;colour 4;nation 0 1 0;tub 2;flag 0 3 0 0;flag 0 3 0 1;flag 0 3 0 1;put 0 0;put 1 0;wash 0 2;put 1 0;put 2 0");
            due.is("stain", x.flag(1, 6), 1);
            due.is("running", x.running(0, heat), heat >= 2 ? 1 : 0);
            due.is("wash", x.wash(0, heat), heat >= 2 ? 1 : 0);
            due.is("stain", x.flag(2, 6), heat >= 2 ? 1 : 0);
        }
    }

    private static void ownColoursAndOldStains() {
        // Five colours run; the flag of all six gets none, that of colour 4 gets five, and once only.
        FlagLaundry x = Due.of("line 1;colour 0;colour 0;colour 0;colour 0;colour 4;colour 0;nation 0 1 0;tub 6;flag 0 3 0 0 1 2 3 4 5;flag 0 3 0 4;put 0 0;put 1 0");
        due.is("running", x.running(0, 0), 0b101111);
        due.is("stainedIf", x.stainedIf(0, 0), 1);
        due.is("wash", x.wash(0, 0), 1);
        due.is("no stains", x.flag(0, 6), 0);
        due.is("five stains", x.flag(1, 6), 0b101111);
        x.put(0, 0);
        x.put(1, 0);
        due.is("stainedIf again", x.stainedIf(0, 3), 0);
        due.is("wash again", x.wash(0, 3), 0);
        due.is("five stains", x.flag(1, 6), 0b101111);
        due.is("gap", x.gap(), 0);
        // A flag alone stains nothing, not itself either.
        x.put(1, 0);
        due.is("alone", x.wash(0, 3), 0);
        due.is("own colour", x.flag(1, 6), 0b101111);
        // All six of a full tub get one.
        FlagLaundry y = Due.of("line 1;colour 0;colour 0;colour 4;nation 0 1 0;tub 6;flag 0 3 0 0;flag 0 3 0 1" + ";flag 0 3 0 2".repeat(4)
                + ";put 0 0;put 1 0;put 2 0;put 3 0;put 4 0;put 5 0");
        due.is("a full tub", y.wash(0, 0), 6);
        due.is("in the basket", y.count(7), 6);
        due.is("the tub is empty", y.tub(0, 1), 0);
    }

    private static void dirtOfWash() {
        int[][] left = {{0, 0, 1, 2, 3, 4, 5, 6, 7, 8}, {0, 0, 0, 0, 1, 2, 3, 4, 5, 6}, {0, 0, 0, 0, 0, 0, 1, 2, 3, 4},
            {0, 0, 0, 0, 0, 0, 0, 0, 1, 2}};
        int[][] washes = {{0, 1, 2, 3, 4, 5, 6, 7, 8, 9}, {0, 1, 1, 1, 2, 2, 2, 3, 3, 3}, {0, 1, 1, 1, 1, 1, 2, 2, 2, 2},
            {0, 1, 1, 1, 1, 1, 1, 1, 2, 2}};
        for (int heat = 0; heat <= 3; heat++) {
            for (int dirt = 0; dirt <= 9; dirt++) {
                FlagLaundry x = Due.of(LEAST + ";flag 0 " + heat + " " + dirt + " 0;put 0 0");
                String name = "DIRT " + dirt + ", HEAT " + heat;
                due.is(name + ", washesFor", x.washesFor(0), washes[heat][dirt]);
                due.is(name + ", dirtIf", x.dirtIf(0, heat), left[heat][dirt]);
                x.wash(0, heat);
                due.is(name, x.flag(0, 3), left[heat][dirt]);
            }
        }
    }

    private static void wetAndCreaseOfWash() {
        int[][] creases = {{1, 2, 3, 4, 5, 6, 7, 8, 9, 9}, {2, 4, 6, 8, 9, 9}, {3, 6, 9, 9}, {4, 8, 9, 9}};
        for (int heat = 0; heat <= 3; heat++) {
            FlagLaundry x = Due.of(LEAST + ";flag 0 3 0 0");
            for (int crease : creases[heat]) {
                x.put(0, 0);
                x.wash(0, heat);
                due.is("CREASE, HEAT " + heat, x.flag(0, 5), crease);
                due.is("WET", x.flag(0, 4), 9);
                x.hang(0);
                x.pass(1);
                x.takeDown(0);
                due.is("WET an hour later", x.flag(0, 4), 8);
            }
        }
    }

    // Section 4

    private static void drying() {
        int[] less = {1, 1, 1, 2, 2, 2, 3, 3, 3, 4};
        for (int wind = 0; wind <= 9; wind++) {
            for (int wet = 0; wet <= 9; wet++) {
                FlagLaundry x = Due.of("line 1;colour 0;nation 0 1 0;tub 1;flag 0 3 0 0;put 0 0;wash 0 0;hang 0");
                if (wet < 9) {
                    x.pass(9 - wet);
                }
                due.is("WET before", x.flag(0, 4), wet);
                x.setWind(wind);
                due.is("it falls by WIND 7", x.pass(1), wind >= 7 ? 1 : 0);
                due.is("WET " + wet + ", WIND " + wind, x.flag(0, 4), Math.max(0, wet - less[wind]));
                due.is("DIRT", x.flag(0, 3), wind >= 7 ? 1 : 0);
                due.is("where it is", x.flag(0, 8), wind >= 7 ? 0 : 2);
                due.is("HOUR", x.count(5), 9 - wet + 1);
            }
        }
        // What is not on the line does not dry.
        FlagLaundry y = Due.of(LEAST + ";tub 1;flag 0 3 0 0;flag 0 3 0 0;put 0 0;wash 0 0;put 1 0;wash 0 0;put 1 1;wind 9;pass 50");
        due.is("in the basket", y.flag(0, 4), 9);
        due.is("in a tub", y.flag(1, 4), 9);
        due.is("none fell", y.count(14), 0);
    }

    private static void falling() {
        // A full line: from the last peg to the first, an hour each.
        FlagLaundry x = Due.of(flags(8, "0 0 8 0") + ";hang 7;hang 6;hang 5;hang 4;hang 3;hang 2;hang 1;hang 0;wind 7");
        for (int f = 0; f <= 7; f++) {
            due.is("pass", x.pass(1), 1);
            due.is("it fell", x.flag(f, 8), 0);
            due.is("it has no peg", x.flag(f, 9), -1);
            due.is("DIRT up to 9", x.flag(f, 3), 9);
            due.is("its peg is free", x.onPeg(7 - f), -1);
            due.is("falls", x.count(14), f + 1);
            due.is("freePegs", x.freePegs(), f + 1);
        }
        due.is("an empty line", x.pass(1), 0);
        due.is("falls", x.count(14), 8);
        x.hang(3);
        x.pass(1);
        due.is("DIRT stays 9", x.flag(3, 3), 9);
        due.is("falls, each time", x.count(14), 9);
        // Free pegs behind and between do not matter.
        FlagLaundry y = Due.of(flags(3, "0 0 0 0") + ";hang 0;hang 1;hang 2;wind 9");
        y.takeDown(1);
        due.is("two hours", y.pass(2), 2);
        due.is("DIRT", y.flag(0, 3), 1);
        due.is("DIRT", y.flag(1, 3), 0);
        due.is("DIRT", y.flag(2, 3), 1);
        FlagLaundry z = Due.of(flags(2, "0 0 0 0") + ";hang 0;hang 1;wind 6");
        due.is("WIND 6 takes none", z.pass(50), 0);
        z.setWind(7);
        due.is("WIND 7 takes all that are there", z.pass(50), 2);
        due.is("HOUR", z.count(5), 100);
    }

    // Section 5, promises 39 and 53

    private static void ironing() {
        // CREASE 4 of a wash with HEAT 3, and WET 0 to 3.
        int[][] crease = {{3, 2, 1, 0}, {2, 1, 0, 0}, {2, 1, 0, 0}, {2, 1, 0, 0}};
        int[][] wet = {{0, 0, 0, 0}, {1, 0, 0, 0}, {2, 1, 0, 0}, {3, 2, 1, 0}};
        int[][] irons = {{4, 2, 2, 1}, {2, 2, 1, 1}, {2, 2, 1, 1}, {2, 2, 1, 1}};
        for (int w = 0; w <= 3; w++) {
            for (int heat = 0; heat <= 3; heat++) {
                FlagLaundry x = Due.of(LEAST + ";flag 0 3 0 0;put 0 0;wash 0 3;hang 0;pass " + (9 - w));
                x.takeDown(0);
                String name = "WET " + w + ", HEAT " + heat;
                due.is(name + ", ironsFor", x.ironsFor(0, heat), irons[w][heat]);
                due.is(name + ", iron", x.iron(0, heat), crease[w][heat]);
                due.is(name + ", CREASE", x.flag(0, 5), crease[w][heat]);
                due.is(name + ", WET", x.flag(0, 4), wet[w][heat]);
            }
        }
        // CREASE 1 and 0: not less than 0.
        FlagLaundry y = Due.of(LEAST + ";flag 0 3 0 0;put 0 0;wash 0 0;hang 0;pass 9");
        y.takeDown(0);
        due.is("CREASE 1", y.flag(0, 5), 1);
        due.is("ironsFor", y.ironsFor(0, 3), 1);
        due.is("iron", y.iron(0, 3), 0);
        due.is("ironsFor", y.ironsFor(0, 3), 0);
        due.is("iron", y.iron(0, 3), 0);
    }

    // Section 6, promises 36 and 55

    private static void paying() {
        // DUE 3, FEE 10, FINE 4; then FEE 8, which FINE 4 takes to 0 exactly; FINE 0; the least FEE; the greatest of all.
        isPaid("nation 3 10 4", 10, 10, 10, 10, 6, 2, 0, 0);
        isPaid("nation 3 8 4", 8, 8, 8, 8, 4, 0, 0);
        isPaid("nation 0 9 0", 9, 9, 9);
        isPaid("nation 0 1 9", 1, 0, 0);
        isPaid("nation 0 99 9", 99, 90, 81, 72, 63, 54, 45, 36, 27, 18, 9, 0, 0);
        isPaid("nation 0 99 1", 99, 98, 97);
    }

    private static void isPaid(String nation, int... pay) {
        for (int hour = 0; hour < pay.length; hour++) {
            for (int flags = 1; flags <= 12; flags += 11) {
                FlagLaundry x = Due.of("line 1;colour 0;" + nation + ";tub 1" + ";flag 0 0 0 0".repeat(flags));
                due.is(nation + ", payIf", x.payIf(0, hour), pay[hour] * flags);
                if (hour > 0) {
                    x.pass(hour);
                }
                due.is(nation + ", payIf now", x.payIf(0, 0), pay[hour] * flags);
                due.is(nation + ", handOver at " + hour, x.handOver(0), pay[hour] * flags);
                due.is(nation + ", EARNED", x.count(11), pay[hour] * flags);
                due.is(nation + ", FINED", x.count(12), (pay[0] - pay[hour]) * flags);
                due.is(nation + ", payIf then", x.payIf(0, 0), 0);
                due.is(nation + ", gap", x.gap(), 0);
            }
        }
    }

    // Promises 17 to 23

    /** All reasons at once that can be at once: the first that applies. */
    private static void whyInOrder() {
        FlagLaundry x = Due.of("line 1;colour 0;colour 4;nation 0 1 0;tub 2;flag 0 3 9 1;flag 0 3 9 0;put 0 0;put 1 0;wash 0 0");
        due.is("in the basket", x.why(0), 4);
        due.is("reasons", x.reasons(0), 0b11110000);
        x.put(0, 0);
        due.is("in a tub", x.why(0), 2);
        due.is("reasons", x.reasons(0), 0b11110100);
        x.takeDown(0);
        x.hang(0);
        due.is("on the line", x.why(0), 3);
        due.is("reasons", x.reasons(0), 0b11111000);
    }

    private static void culprit() {
        FlagLaundry x = Due.of(flags(12, "1 3 0 0"));
        due.is("it has none", x.culprit(0), -1);
        due.is("all are ready", x.culprit(1), -1);
        x.hang(11);
        due.is("the last one", x.culprit(1), 11);
        x.put(0, 0);
        due.is("the first one", x.culprit(1), 0);
        due.is("it has none", x.culprit(3), -1);
        x.takeDown(0);
        x.takeDown(11);
        x.handOver(1);
        due.is("handed over", x.culprit(1), 0);
        FlagLaundry y = Due.of(LEAST + ";flag 0 0 1 0");
        due.is("the only one", y.culprit(0), 0);
    }

    private static void whyNotPut() {
        FlagLaundry x = Due.of(flags(9, "0 3 0 0") + ";flag 3 0 0 0");
        due.is("an empty tub of one", x.whyNotPut(6, 2), 0);
        x.put(7, 2);
        due.is("a full tub of one", x.whyNotPut(6, 2), 2);
        for (int f = 0; f < 6; f++) {
            due.is("room for " + f, x.whyNotPut(8, 0), 0);
            x.put(f, 0);
        }
        due.is("a full tub of six", x.whyNotPut(8, 0), 2);
        due.is("another one", x.whyNotPut(8, 1), 0);
        due.is("in a full tub itself", x.whyNotPut(5, 0), 1);
        x.hang(8);
        x.handOver(3);
        for (int t = 0; t <= 2; t++) {
            due.is("on the line", x.whyNotPut(8, t), 1);
            due.is("in a tub", x.whyNotPut(0, t), 1);
            due.is("handed over", x.whyNotPut(9, t), 1);
        }
        x.takeDown(0);
        due.is("there is room again", x.whyNotPut(0, 0), 0);
    }

    private static void whyNotWash() {
        for (int care = 0; care <= 3; care++) {
            FlagLaundry x = Due.of(SETUP + ";flag 0 3 0 0;flag 0 " + care + " 0 0;flag 0 3 0 0;put 0 0;put 1 0;put 2 0");
            for (int heat = 0; heat <= 3; heat++) {
                due.is("CARE " + care + ", HEAT " + heat, x.whyNotWash(0, heat), heat <= care ? 0 : 2);
                due.is("an empty tub, HEAT " + heat, x.whyNotWash(1, heat), 1);
            }
        }
    }

    private static void whyNotIron() {
        for (int care = 0; care <= 3; care++) {
            FlagLaundry x = Due.of(LEAST + ";flag 0 " + care + " 0 0");
            for (int heat = 0; heat <= 3; heat++) {
                due.is("CARE " + care + ", HEAT " + heat, x.whyNotIron(0, heat), heat <= care ? 0 : 2);
                due.is("ironsFor", x.ironsFor(0, heat), heat <= care ? 0 : -1);
            }
            x.hang(0);
            due.is("on the line before all", x.whyNotIron(0, 3), 1);
            x.takeDown(0);
            x.put(0, 0);
            due.is("in a tub before all", x.whyNotIron(0, 3), 1);
            x.takeDown(0);
            x.handOver(0);
            due.is("handed over before all", x.whyNotIron(0, 0), 1);
        }
        for (int wet = 0; wet <= 9; wet++) {
            FlagLaundry x = Due.of(LEAST + ";flag 0 2 0 0;put 0 0;wash 0 0;hang 0");
            if (wet < 9) {
                x.pass(9 - wet);
            }
            x.takeDown(0);
            due.is("WET " + wet, x.whyNotIron(0, 2), wet > 3 ? 3 : 0);
            due.is("too hot before WET " + wet, x.whyNotIron(0, 3), 2);
        }
        // Stained and WET 4, then 3.
        FlagLaundry y = Due.of("line 1;colour 0;colour 4;nation 0 1 0;tub 2;flag 0 2 0 1;flag 0 2 0 0;put 0 0;put 1 0;wash 0 0;hang 0;pass 5");
        due.is("on the line before all", y.whyNotIron(0, 3), 1);
        y.takeDown(0);
        due.is("too hot before WET 4", y.whyNotIron(0, 3), 2);
        due.is("WET 4 before stained", y.whyNotIron(0, 2), 3);
        y.hang(0);
        y.pass(1);
        y.takeDown(0);
        due.is("stained", y.whyNotIron(0, 2), 4);
        due.is("too hot before stained", y.whyNotIron(0, 3), 2);
        y.bleach(0);
        due.is("bleached", y.whyNotIron(0, 2), 0);
    }

    private static void whyNotBleach() {
        FlagLaundry x = Due.of("line 1;colour 0;colour 4;nation 0 1 0;nation 0 1 0;tub 2;flag 0 2 0 1;flag 0 2 0 0;flag 1 0 0 0");
        for (int bleached = 0; bleached <= 2; bleached++) {
            due.is("BLEACHED", x.flag(0, 7), bleached);
            due.is("not stained before BLEACHED " + bleached, x.whyNotBleach(0), 2);
            x.put(0, 0);
            x.put(1, 0);
            x.wash(0, 0);
            due.is("BLEACHED " + bleached, x.whyNotBleach(0), bleached < 2 ? 0 : 3);
            x.hang(0);
            due.is("on the line before BLEACHED " + bleached, x.whyNotBleach(0), 1);
            x.takeDown(0);
            x.put(0, 0);
            due.is("in a tub before BLEACHED " + bleached, x.whyNotBleach(0), 1);
            x.takeDown(0);
            if (bleached < 2) {
                due.is("bleach", x.bleach(0), 1);
            }
        }
        due.is("in the basket, no stains", x.whyNotBleach(2), 2);
        x.hang(2);
        due.is("on the line before no stains", x.whyNotBleach(2), 1);
        x.takeDown(2);
        x.handOver(1);
        due.is("handed over before no stains", x.whyNotBleach(2), 1);
    }
}
