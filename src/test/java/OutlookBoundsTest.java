/** Promises 24 to 46: the edges of what will be and would be, of the quotients and of the texts. */
public final class OutlookBoundsTest {
    private static final Due due = new Due();
    private static final String LEAST = "line 1;colour 0;nation 0 1 0;tub 1";
    private static final String SETUP = "line 8;colour 0;colour 1;colour 2;colour 3;colour 4;colour 0;"
            + "nation 0 1 0;nation 99 99 9;nation 5 20 3;nation 1 9 9;tub 6;tub 2;tub 1";

    public static void main(String[] args) {
        anEmptyTub();
        whetherTheyBearItOrNot();
        bestHeat();
        firstSafe();
        doNotMix();
        groups();
        purest();
        dryingInAStorm();
        dryingAtTheEdge();
        fallsIn();
        payIf();
        latest();
        dearest();
        ironsFor();
        quotients();
        shortestTexts();
        longestTexts();
        textByte();
        due.end();
    }

    private static String flags(int flags, String told) {
        return SETUP + (";flag " + told).repeat(flags);
    }

    // Promises 24 to 27

    private static void anEmptyTub() {
        FlagLaundry x = Due.of(flags(2, "0 3 9 0") + ";put 0 0");
        for (int heat = 0; heat <= 3; heat++) {
            due.is("running", x.running(1, heat), 0);
            due.is("stainedIf", x.stainedIf(1, heat), 0);
            due.is("dirtIf", x.dirtIf(1, heat), 0);
            due.is("firstSafe", x.firstSafe(1, heat), 1);
        }
        due.is("bestHeat", x.bestHeat(1), -1);
        x.clearTub(0);
        due.is("bestHeat of a tub that was cleared", x.bestHeat(0), -1);
    }

    private static void whetherTheyBearItOrNot() {
        FlagLaundry x = Due.of(SETUP + ";flag 0 0 9 3;flag 0 0 9 0;flag 0 0 9 4;flag 0 0 9 1;flag 0 0 9 2;flag 0 0 9 5;"
                + "put 0 0;put 1 0;put 2 0;put 3 0;put 4 0;put 5 0");
        int[] running = {0b100001, 0b100011, 0b100111, 0b101111};
        int[] dirt = {48, 36, 24, 12};
        for (int heat = 0; heat <= 3; heat++) {
            due.is("whyNotWash", x.whyNotWash(0, heat), heat == 0 ? 0 : 2);
            due.is("running", x.running(0, heat), running[heat]);
            due.is("stainedIf", x.stainedIf(0, heat), 6);
            due.is("dirtIf", x.dirtIf(0, heat), dirt[heat]);
        }
        due.is("bestHeat of those that can be", x.bestHeat(0), 0);
    }

    private static void bestHeat() {
        // With one flag that nothing stains, the DIRT that is left decides, and then the smallest HEAT.
        int[][] best = {{0, 0, 0, 0}, {0, 0, 0, 0}, {0, 1, 1, 1}, {0, 1, 1, 1}, {0, 1, 2, 2}, {0, 1, 2, 2}, {0, 1, 2, 3},
            {0, 1, 2, 3}, {0, 1, 2, 3}, {0, 1, 2, 3}};
        for (int dirt = 0; dirt <= 9; dirt++) {
            for (int care = 0; care <= 3; care++) {
                FlagLaundry x = Due.of(LEAST + ";flag 0 " + care + " " + dirt + " 0;put 0 0");
                due.is("DIRT " + dirt + ", CARE " + care, x.bestHeat(0), best[dirt][care]);
            }
        }
        // A stain less goes before any DIRT: colour 1 runs from HEAT 1 on.
        FlagLaundry y = Due.of("line 1;colour 4;colour 1;nation 0 1 0;tub 6;flag 0 3 9 0;flag 0 3 9 1;put 0 0;put 1 0");
        due.is("none is stained with HEAT 0", y.bestHeat(0), 0);
        due.is("wash", y.wash(0, 3), 1);
        y.put(0, 0);
        y.put(1, 0);
        due.is("it is stained already", y.bestHeat(0), 1);
        FlagLaundry z = Due.of("line 1;colour 4;colour 0;nation 0 1 0;tub 6;flag 0 3 9 0;flag 0 3 9 1;put 0 0;put 1 0");
        due.is("as many with each HEAT: the least DIRT", z.bestHeat(0), 3);
        FlagLaundry one = Due.of("line 1;colour 4;colour 0;nation 0 1 0;tub 6;flag 0 3 9 0;flag 0 1 9 1;put 0 0;put 1 0");
        due.is("not with what one does not bear", one.bestHeat(0), 1);
        one.takeDown(1);
        due.is("alone it bears more", one.bestHeat(0), 3);
    }

    // Promise 28

    private static void firstSafe() {
        FlagLaundry none = Due.of(LEAST);
        due.is("without flags", none.firstSafe(0, 0), -1);
        FlagLaundry x = Due.of(flags(11, "0 0 0 0") + ";flag 0 3 0 0");
        due.is("the first", x.firstSafe(0, 0), 0);
        due.is("the last, that bears it", x.firstSafe(0, 1), 11);
        due.is("the last, that bears it", x.firstSafe(0, 3), 11);
        x.hang(11);
        due.is("none that can be put bears it", x.firstSafe(0, 1), -1);
        x.takeDown(11);
        x.put(11, 2);
        due.is("a full tub", x.firstSafe(2, 0), -1);
        due.is("one that is in a tub", x.firstSafe(0, 3), -1);
        x.put(0, 1);
        due.is("what is in it does not bear it", x.firstSafe(1, 1), -1);
        due.is("the last place of two", x.firstSafe(1, 0), 1);
        x.put(1, 1);
        due.is("a full tub of two", x.firstSafe(1, 0), -1);
        for (int f = 2; f <= 6; f++) {
            x.put(f, 0);
        }
        due.is("the last place of six", x.firstSafe(0, 0), 7);
        x.put(7, 0);
        due.is("a full tub of six", x.firstSafe(0, 0), -1);
        FlagLaundry over = Due.of(LEAST + ";flag 0 3 0 0");
        over.handOver(0);
        due.is("handed over", over.firstSafe(0, 0), -1);
        // RUNS 2: with HEAT 1 it stains none, with HEAT 2 it does; of its own colour one is safe.
        FlagLaundry y = Due.of("line 1;colour 4;colour 2;nation 0 1 0;tub 2;flag 0 3 0 1;flag 0 3 0 0;flag 0 3 0 1;put 2 0");
        due.is("the same colour", y.firstSafe(0, 3), 0);
        y.hang(0);
        due.is("HEAT 1", y.firstSafe(0, 1), 1);
        due.is("HEAT 2", y.firstSafe(0, 2), -1);
        y.takeDown(2);
        y.put(1, 0);
        due.is("it would stain what is in it, HEAT 1", y.firstSafe(0, 1), 2);
        due.is("it would stain what is in it, HEAT 2", y.firstSafe(0, 2), -1);
        // What is in it stains itself, whatever comes; a flag that has what runs makes it no better.
        FlagLaundry z = Due.of("line 1;colour 1;colour 4;nation 0 1 0;tub 3;flag 0 3 0 0;flag 0 3 0 1;flag 0 3 0 0;flag 0 3 0 0 1;"
                + "put 0 0;put 1 0");
        due.is("colour 0 does not run", z.firstSafe(0, 0), 2);
        due.is("colour 0 runs", z.firstSafe(0, 1), -1);
        z.takeDown(1);
        due.is("flag 1 would get a stain", z.firstSafe(0, 1), 2);
    }

    // Promises 29 to 31

    private static void doNotMix() {
        FlagLaundry x = Due.of(flags(1, "0 0 0 0") + ";flag 0 0 0 1");
        for (int heat = 0; heat <= 3; heat++) {
            due.is("both are the same", x.doNotMix(0, 0, heat), 0);
            due.is("both are the same", x.doNotMix(1, 1, heat), 0);
            due.is("colours 0 and 1, HEAT " + heat, x.doNotMix(0, 1, heat), heat == 0 ? 1 : 3);
            due.is("colours 1 and 0, HEAT " + heat, x.doNotMix(1, 0, heat), heat == 0 ? 2 : 3);
        }
        FlagLaundry y = Due.of(flags(2, "0 0 0 0 1 2 3 4 5") + ";flag 0 0 0 0 1 2 3 4");
        due.is("all six colours", y.doNotMix(0, 1, 3), 0);
        due.is("one is missing", y.doNotMix(0, 2, 3), 1);
        due.is("one is missing", y.doNotMix(2, 0, 3), 2);
    }

    /** Twelve sets of colours that all run, no two of them alike. */
    private static final String TWELVE = "line 8;colour 0;colour 0;colour 0;colour 0;nation 0 1 0;tub 1;flag 0 3 1 0;flag 0 3 1 1;"
            + "flag 0 3 1 2;flag 0 3 1 3;flag 0 3 1 0 1;flag 0 3 1 0 2;flag 0 3 1 0 3;flag 0 3 1 1 2;flag 0 3 1 1 3;flag 0 3 1 2 3;"
            + "flag 0 3 1 0 1 2;flag 0 3 1 1 2 3";

    private static void groups() {
        due.is("without flags", Due.of(LEAST).groups(0), 0);
        due.is("one", Due.of(LEAST + ";flag 0 0 1 0").groups(0), 1);
        due.is("one that is clean", Due.of(LEAST + ";flag 0 0 0 0").groups(0), 0);
        due.is("one that does not bear it", Due.of(LEAST + ";flag 0 0 1 0").groups(1), 0);
        FlagLaundry x = Due.of(flags(12, "0 2 1 0"));
        due.is("twelve together, more than a tub has room for", x.groups(2), 1);
        due.is("none bears it", x.groups(3), 0);
        due.is("each alone", Due.of(TWELVE).groups(0), 12);
        FlagLaundry y = Due.of(TWELVE);
        y.hang(0);
        due.is("but for one on the line", y.groups(3), 11);
        y.put(11, 0);
        due.is("and one in a tub", y.groups(3), 10);
        FlagLaundry over = Due.of(LEAST + ";nation 0 1 0;flag 0 3 0 0;flag 1 3 1 0");
        over.handOver(0);
        due.is("and one handed over", over.groups(0), 1);
    }

    private static void purest() {
        due.is("without flags", Due.of(LEAST).purest(0), -1);
        FlagLaundry x = Due.of(TWELVE);
        due.is("all mix with eleven: the smallest number", x.purest(0), 0);
        x.hang(0);
        due.is("it is on the line", x.purest(0), 1);
        for (int f = 1; f <= 7; f++) {
            x.hang(f);
        }
        x.put(8, 0);
        due.is("it is in a tub", x.purest(3), 9);
        FlagLaundry y = Due.of(TWELVE.replace("flag 0 3 1 1 2 3", "flag 0 3 1 2 1 0"));
        due.is("two alike mix with ten each", y.purest(0), 10);
        // Two flags of colour 0 and three of colour 1; only those in the basket count.
        FlagLaundry others = Due.of("line 8;colour 0;colour 0;colour 4;nation 0 1 0;tub 6;flag 0 0 0 0;flag 0 0 0 0;flag 0 0 0 1;"
                + "flag 0 0 0 1;flag 0 0 0 1");
        due.is("two mix with three, three with two", others.purest(0), 2);
        others.hang(3);
        due.is("one is on the line: two with two each", others.purest(0), 0);
        others.put(4, 0);
        due.is("and one in a tub: two with one, one with two", others.purest(0), 0);
        others.put(0, 0);
        due.is("each with one", others.purest(0), 1);
        others.hang(1);
        due.is("alone in the basket", others.purest(0), 2);
        FlagLaundry z = Due.of(LEAST + ";flag 0 0 9 0");
        due.is("the only one", z.purest(3), 0);
        z.hang(0);
        due.is("an empty basket", z.purest(3), -1);
    }

    // Promises 33 to 35

    private static void dryingInAStorm() {
        // Eight flags of WET 9; that on peg p falls off in hour 8 - p.
        StringBuilder text = new StringBuilder(flags(8, "0 3 0 0"));
        text.append(";put 0 0;put 1 0;put 2 0;put 3 0;put 4 0;put 5 0;wash 0 0;put 6 0;put 7 0;wash 0 0");
        FlagLaundry x = Due.of(text.toString());
        for (int f = 0; f <= 7; f++) {
            due.is("in the basket", x.dryIn(f), -1);
            due.is("in the basket", x.dryByWind(f, 9), -1);
            x.hang(f);
        }
        for (int wind = 7; wind <= 9; wind++) {
            for (int p = 0; p <= 7; p++) {
                due.is("WIND " + wind + ", peg " + p, x.dryByWind(p, wind), p <= 5 ? 3 : -1);
            }
        }
        int[] calm = {9, 9, 9, 5, 5, 5, 3};
        for (int wind = 0; wind <= 6; wind++) {
            due.is("WIND " + wind + ", peg 0", x.dryByWind(0, wind), calm[wind]);
            due.is("WIND " + wind + ", peg 7", x.dryByWind(7, wind), calm[wind]);
        }
        x.setWind(7);
        due.is("it is dry in the hour in which it falls off", x.dryIn(5), 3);
        x.pass(3);
        due.is("and so it was", x.flag(5, 4), 0);
        due.is("and it fell", x.flag(5, 8), 0);
        due.is("not on the line any more, though dry", x.dryIn(5), -1);
        due.is("dry", x.dryIn(4), 0);
        due.is("dry, by WIND 0", x.dryByWind(0, 0), 0);
    }

    private static void dryingAtTheEdge() {
        for (int wet = 0; wet <= 9; wet++) {
            FlagLaundry x = Due.of(LEAST + ";flag 0 3 0 0;put 0 0;wash 0 0;hang 0");
            if (wet < 9) {
                x.pass(9 - wet);
            }
            // On the only peg it falls off in the first hour of a storm.
            due.is("WET " + wet + ", WIND 0", x.dryByWind(0, 0), wet);
            due.is("WET " + wet + ", WIND 3", x.dryByWind(0, 3), (wet + 1) / 2);
            due.is("WET " + wet + ", WIND 6", x.dryByWind(0, 6), (wet + 2) / 3);
            due.is("WET " + wet + ", WIND 7", x.dryByWind(0, 7), wet == 0 ? 0 : wet <= 3 ? 1 : -1);
            due.is("WET " + wet + ", WIND 8", x.dryByWind(0, 8), wet == 0 ? 0 : wet <= 3 ? 1 : -1);
            due.is("WET " + wet + ", WIND 9", x.dryByWind(0, 9), wet == 0 ? 0 : wet <= 4 ? 1 : -1);
            due.is("WET " + wet + " now", x.dryIn(0), wet);
        }
        FlagLaundry y = Due.of(LEAST + ";nation 0 1 0;flag 1 3 0 0");
        due.is("dry in the basket", y.dryIn(0), -1);
        y.put(0, 0);
        due.is("dry in a tub", y.dryIn(0), -1);
        y.takeDown(0);
        y.handOver(1);
        due.is("handed over", y.dryIn(0), -1);
        due.is("handed over", y.dryByWind(0, 9), -1);
    }

    private static void fallsIn() {
        FlagLaundry x = Due.of(flags(8, "0 3 0 0") + ";wind 9;hang 0;hang 1;hang 2;hang 3;hang 4;hang 5;hang 6;hang 7");
        int[] hours = {0, 1, 7, 8, 9, 98, 99};
        int[] falls = {0, 1, 7, 8, 8, 8, 8};
        for (int i = 0; i < hours.length; i++) {
            due.is("fallsIn(" + hours[i] + ")", x.fallsIn(hours[i]), falls[i]);
        }
        x.setWind(7);
        due.is("WIND 7", x.fallsIn(99), 8);
        x.setWind(6);
        due.is("WIND 6", x.fallsIn(99), 0);
        x.setWind(9);
        x.pass(3);
        due.is("five are left", x.fallsIn(99), 5);
        x.takeDown(0);
        due.is("four are left", x.fallsIn(4), 4);
        due.is("three fall in three", x.fallsIn(3), 3);
        x.pass(50);
        due.is("an empty line", x.fallsIn(99), 0);
        due.is("none has fallen because of asking", x.count(14), 7);
    }

    // Promises 36 to 38

    private static void payIf() {
        // DUE 99, FEE 99, FINE 9: nothing is paid from hour 110 on.
        FlagLaundry x = Due.of(flags(12, "1 0 9 0"));
        due.is("in no hours", x.payIf(1, 0), 1188);
        due.is("in 99", x.payIf(1, 99), 1188);
        x.pass(1);
        due.is("in 98", x.payIf(1, 98), 1188);
        due.is("in 99", x.payIf(1, 99), 1080);
        due.is("no flags", x.payIf(2, 99), 0);
        x.pass(10);
        due.is("in 98, at 109", x.payIf(1, 98), 12 * 9);
        due.is("in 99, at 110", x.payIf(1, 99), 0);
        FlagLaundry y = Due.of(LEAST + ";flag 0 0 0 0");
        due.is("ready", y.payIf(0, 99), 1);
        y.handOver(0);
        due.is("handed over", y.payIf(0, 0), 0);
        due.is("handed over", y.payIf(0, 99), 0);
    }

    private static void latest() {
        isLatest("nation 0 1 9", 0);
        isLatest("nation 0 1 1", 0);
        isLatest("nation 0 9 9", 0);
        isLatest("nation 0 10 9", 1);
        isLatest("nation 3 10 4", 5);
        isLatest("nation 3 8 4", 4);
        isLatest("nation 99 99 9", 109);
        isLatest("nation 99 1 9", 99);
        isLatest("nation 99 99 1", 197);
        FlagLaundry never = Due.of("line 1;colour 0;nation 0 1 0;tub 1;flag 0 0 0 0;pass 50");
        due.is("FINE 0", never.latest(0), 999);
        never.handOver(0);
        due.is("FINE 0, handed over", never.latest(0), -1);
        due.is("FINE 0, no flags", Due.of(LEAST).latest(0), -1);
        due.is("FINE 9, no flags", Due.of("line 1;colour 0;nation 9 99 9;tub 1").latest(0), -1);
        FlagLaundry over = Due.of("line 1;colour 0;nation 9 99 9;tub 1;flag 0 0 0 0");
        over.handOver(0);
        due.is("FINE 9, handed over", over.latest(0), -1);
    }

    /** Told before, in that hour, and no more in the one behind it. */
    private static void isLatest(String nation, int hour) {
        FlagLaundry x = Due.of("line 1;colour 0;" + nation + ";tub 1;flag 0 0 9 0");
        due.is(nation, x.latest(0), hour);
        for (int left = hour; left > 0; left -= Math.min(left, 50)) {
            x.pass(Math.min(left, 50));
        }
        due.is(nation + " in that hour", x.latest(0), hour);
        due.isTrue(nation + " is paid for then", x.payIf(0, 0) > 0);
        x.pass(1);
        due.is(nation + " behind it", x.latest(0), -1);
        due.is(nation + " is not paid for then", x.payIf(0, 0), 0);
    }

    private static void dearest() {
        due.is("no flags at all", Due.of(SETUP).dearest(), -1);
        due.is("FINE 0", Due.of(flags(12, "0 0 0 0")).dearest(), -1);
        // DUE 1, FEE 9, FINE 9: it loses nothing by the hour before DUE, all by the next one, and then nothing more.
        FlagLaundry x = Due.of(flags(1, "3 0 0 0"));
        due.is("the hour before DUE", x.dearest(), -1);
        x.pass(1);
        due.is("at DUE", x.dearest(), 3);
        x.pass(1);
        due.is("nothing is left to lose", x.dearest(), -1);
        // A loss of what is left, less than FINE: 1 of nation 0, 1 of nation 1; then 2 flags of nation 1.
        FlagLaundry y = Due.of("line 1;colour 0;nation 0 1 9;nation 0 5 1;tub 1;flag 0 0 0 0;flag 1 0 0 0");
        due.is("as much: the smallest number", y.dearest(), 0);
        y.addFlag(1, 1, 0, 0);
        due.is("for each flag", y.dearest(), 1);
        y.handOver(1);
        due.is("that was handed over", y.dearest(), 0);
        y.handOver(0);
        due.is("all were handed over", y.dearest(), -1);
        // The last of four nations.
        FlagLaundry z = Due.of("line 1;colour 0;nation 0 9 1;nation 0 9 1;nation 0 9 1;nation 0 9 2;tub 1;flag 0 0 0 0;flag 1 0 0 0;flag 2 0 0 0;flag 3 0 0 0");
        due.is("the last one", z.dearest(), 3);
    }

    // Promise 39

    private static void ironsFor() {
        FlagLaundry x = Due.of(LEAST + ";flag 0 3 9 0");
        for (int heat = 0; heat <= 3; heat++) {
            due.is("CREASE 0", x.ironsFor(0, heat), 0);
        }
        // The greatest CREASE with WET 0 to 3, which HEAT 0 leaves; HEAT 1 takes WET 1 in the first of four irons.
        int[][] irons = {{9, 5, 3, 3}, {5, 4, 3, 2}, {5, 4, 3, 2}, {5, 3, 3, 2}};
        for (int wet = 0; wet <= 3; wet++) {
            for (int heat = 0; heat <= 3; heat++) {
                isIroned(9 - wet, heat, irons[wet][heat]);
            }
        }
    }

    private static void isIroned(int hoursOnLine, int heat, int irons) {
        FlagLaundry x = Due.of(LEAST + ";flag 0 3 9 0;put 0 0;wash 0 3;put 0 0;wash 0 3;put 0 0;wash 0 3;hang 0;pass " + hoursOnLine);
        due.is("CREASE", x.flag(0, 5), 9);
        due.is("on the line", x.ironsFor(0, heat), -1);
        x.takeDown(0);
        for (int left = irons; left > 0; left--) {
            due.is("ironsFor with HEAT " + heat + " after " + hoursOnLine, x.ironsFor(0, heat), left);
            due.isTrue("creased still", x.flag(0, 5) > 0);
            x.iron(0, heat);
        }
        due.is("ironsFor then", x.ironsFor(0, heat), 0);
        due.is("CREASE then", x.flag(0, 5), 0);
    }

    // Promises 40 and 41

    private static void quotients() {
        FlagLaundry none = Due.of(SETUP);
        due.is("readyShare without flags", none.readyShare(), 0.0f);
        due.is("meanDirt without flags", none.meanDirt(), 0.0);
        FlagLaundry x = Due.of(flags(12, "0 0 9 0"));
        due.is("none is ready", x.readyShare(), 0.0f);
        due.is("the greatest DIRT", x.meanDirt(), 9.0);
        FlagLaundry y = Due.of(flags(11, "0 0 0 0") + ";flag 1 0 1 0");
        due.is("but for one", y.readyShare(), 11.0f / 12.0f);
        due.is("DIRT of one", y.meanDirt(), 1.0 / 12.0);
        y.handOver(0);
        due.is("handed over", y.readyShare(), 11.0f / 12.0f);
        due.is("DIRT of those too that were handed over", y.meanDirt(), 1.0 / 12.0);
        FlagLaundry z = Due.of(LEAST + ";flag 0 0 0 0");
        due.is("all are ready", z.readyShare(), 1.0f);
        due.is("no DIRT", z.meanDirt(), 0.0);
        z.hang(0);
        due.is("none is ready", z.readyShare(), 0.0f);
        z.takeDown(0);
        z.handOver(0);
        due.is("all are handed over", z.readyShare(), 1.0f);
        z.undo();
        z.addFlag(0, 1, 0, 1);
        z.addFlag(0, 1, 0, 0);
        due.is("two of three, as floats", z.readyShare(), 2.0f / 3.0f);
        due.is("1 of 3, as doubles", z.meanDirt(), 1.0 / 3.0);
    }

    // Promises 42 to 46

    private static void shortestTexts() {
        FlagLaundry x = Due.of(LEAST + ";flag 0 3 0 0");
        due.isText("writeFlag", x, x.writeFlag(0), "b000");
        due.isText("writeTub", x, x.writeTub(0), "-");
        due.isText("writeNation", x, x.writeNation(0), "0:0");
        due.isText("writeLine", x, x.writeLine(), ".");
        FlagLaundry y = Due.of(LEAST);
        due.isText("writeNation without any", y, y.writeNation(0), "-");
        x.hang(0);
        due.isText("writeLine", x, x.writeLine(), "0");
        due.isText("writeFlag", x, x.writeFlag(0), "l000");
        x.takeDown(0);
        x.put(0, 0);
        due.isText("writeTub", x, x.writeTub(0), "0");
        due.isText("writeFlag", x, x.writeFlag(0), "t000");
        x.takeDown(0);
        x.handOver(0);
        due.isText("writeFlag", x, x.writeFlag(0), "g000");
        due.isText("writeNation", x, x.writeNation(0), "0:1");
        FlagLaundry z = Due.of(SETUP);
        due.isText("writeLine", z, z.writeLine(), "./././././././.");
    }

    private static void longestTexts() {
        FlagLaundry x = Due.of(flags(12, "1 3 9 0"));
        due.isText("writeNation", x, x.writeNation(1), "0:4 1:4 2:4 3:4 4:4 5:4 6:4 7:4 8:4 9:4 10:4 11:4");
        int[] tub = {11, 10, 0, 9, 8, 7};
        for (int f : tub) {
            x.put(f, 0);
        }
        due.isText("writeTub", x, x.writeTub(0), "11,10,0,9,8,7");
        due.isText("writeFlag", x, x.writeFlag(11), "t900");
        x.clearTub(0);
        for (int f = 11; f >= 4; f--) {
            x.hang(f);
        }
        due.isText("writeLine", x, x.writeLine(), "11/10/9/8/7/6/5/4");
        due.isText("writeNation", x, x.writeNation(1), "0:4 1:4 2:4 3:4 4:3 5:3 6:3 7:3 8:3 9:3 10:3 11:3");
        due.isText("writeFlag", x, x.writeFlag(11), "l900");
        // The greatest digits, and as many stains as there can be.
        FlagLaundry y = Due.of("line 8;colour 0;colour 0;colour 0;colour 0;colour 0;colour 0;nation 0 1 0;tub 2;"
                + "flag 0 3 9 5;flag 0 3 9 0 1 2 3 4" + ";put 0 0;put 1 0;wash 0 0".repeat(2));
        due.isText("writeFlag", y, y.writeFlag(0), "b792+0+1+2+3+4");
        due.isText("writeFlag", y, y.writeFlag(1), "b792+5");
        for (int k = 0; k < 7; k++) {
            y.put(1, 0);
            y.wash(0, 0);
        }
        due.isText("writeFlag", y, y.writeFlag(1), "b099+5");
    }

    private static void textByte() {
        FlagLaundry x = Due.of(flags(12, "1 3 9 0"));
        due.outOfBounds("before the first text", () -> x.textByte(0));
        due.is("writeNation", x.writeNation(1), 49);
        due.is("the first byte", x.textByte(0), 48);
        due.is("the colon", x.textByte(1), 58);
        due.is("the blank", x.textByte(3), 32);
        due.is("the last byte", x.textByte(48), 52);
        due.outOfBounds("behind the last one", () -> x.textByte(49));
        due.outOfBounds("ahead of the first one", () -> x.textByte(-1));
        // A refused one leaves it; a shorter one leaves nothing of it.
        due.outOfBounds("writeNation(4)", () -> x.writeNation(4));
        due.is("the last byte", x.textByte(48), 52);
        due.is("writeTub", x.writeTub(0), 1);
        due.is("a hyphen", x.textByte(0), 45);
        due.outOfBounds("a byte of the longer one", () -> x.textByte(1));
        x.put(0, 0);
        x.put(1, 0);
        due.is("as it was written", x.textByte(0), 45);
        x.writeTub(0);
        due.is("the comma", x.textByte(1), 44);
        x.writeLine();
        due.is("the dot", x.textByte(0), 46);
        due.is("the slash", x.textByte(1), 47);
        byte[] places = {98, 116, 108, 103};
        FlagLaundry y = Due.of(SETUP + ";flag 0 0 0 0;flag 0 0 0 0;flag 0 0 0 0;flag 1 0 0 0;put 1 0;hang 2");
        y.handOver(1);
        for (int f = 0; f <= 3; f++) {
            y.writeFlag(f);
            due.is("the letter", y.textByte(0), places[f]);
        }
    }
}
