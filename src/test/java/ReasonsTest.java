/** Promises 17 to 23, and section 2: reasons. */
public final class ReasonsTest {
    private static final Due due = new Due();
    private static final String SETUP = "line 2;colour 0;colour 4;nation 3 10 4;nation 0 1 0;tub 2;tub 1;";

    public static void main(String[] args) {
        whyAndReasons();
        culprit();
        whyNotPut();
        whyNotWash();
        whyNotIron();
        whyNotBleach();
        withoutText();
        due.end();
    }

    private static void whyAndReasons() {
        FlagLaundry x = Due.of(SETUP + "flag 0 3 9 0;flag 0 3 9 1;flag 0 3 0 1;flag 1 3 0 0");
        isWhy(x, 0, 4, 1 << 4);
        isWhy(x, 2, 0, 0);
        x.put(0, 0);
        isWhy(x, 0, 2, 1 << 2 | 1 << 4);
        x.put(1, 0);
        x.wash(0, 0);
        isWhy(x, 0, 4, 1 << 4 | 1 << 6 | 1 << 7);
        isWhy(x, 1, 4, 1 << 4 | 1 << 5 | 1 << 6 | 1 << 7);
        x.hang(1);
        isWhy(x, 1, 3, 1 << 3 | 1 << 4 | 1 << 5 | 1 << 6 | 1 << 7);
        x.takeDown(1);
        x.put(1, 0);
        x.wash(0, 3);
        x.put(1, 0);
        x.wash(0, 0);
        isWhy(x, 1, 5, 1 << 5 | 1 << 6 | 1 << 7);
        x.bleach(1);
        isWhy(x, 1, 6, 1 << 6 | 1 << 7);
        x.hang(1);
        x.pass(9);
        isWhy(x, 1, 3, 1 << 3 | 1 << 7);
        x.takeDown(1);
        isWhy(x, 1, 7, 1 << 7);
        x.iron(1, 3);
        x.iron(1, 3);
        isWhy(x, 1, 0, 0);
        x.hang(3);
        isWhy(x, 3, 3, 1 << 3);
        x.takeDown(3);
        x.handOver(1);
        isWhy(x, 3, 1, 1 << 1);
        due.outOfBounds("why(4)", () -> x.why(4));
        due.outOfBounds("why(-1)", () -> x.why(-1));
        due.outOfBounds("reasons(4)", () -> x.reasons(4));
        due.outOfBounds("reasons(-1)", () -> x.reasons(-1));
    }

    private static void isWhy(FlagLaundry x, int f, int first, int all) {
        due.is("why(" + f + ")", x.why(f), first);
        due.is("reasons(" + f + ")", x.reasons(f), all);
    }

    private static void culprit() {
        FlagLaundry x = Due.of(SETUP + "flag 0 3 0 0;flag 0 3 1 1;flag 0 3 1 1");
        due.is("culprit", x.culprit(0), 1);
        due.is("culprit without flags", x.culprit(1), -1);
        x.hang(0);
        due.is("culprit", x.culprit(0), 0);
        due.outOfBounds("culprit(2)", () -> x.culprit(2));
        due.outOfBounds("culprit(-1)", () -> x.culprit(-1));
        FlagLaundry y = Due.of(SETUP + "flag 1 3 0 0;flag 0 3 0 1;flag 0 3 0 1");
        due.is("all are ready", y.culprit(0), -1);
        y.handOver(0);
        due.is("handed over is not ready", y.culprit(0), 1);
    }

    private static void whyNotPut() {
        FlagLaundry x = Due.of(SETUP + "flag 0 3 0 0;flag 0 3 1 1;flag 0 3 1 1;flag 1 0 0 0");
        due.is("whyNotPut", x.whyNotPut(0, 1), 0);
        x.put(0, 1);
        due.is("in a tub", x.whyNotPut(0, 0), 1);
        due.is("in it, without room", x.whyNotPut(0, 1), 1);
        due.is("no room", x.whyNotPut(1, 1), 2);
        due.is("room", x.whyNotPut(1, 0), 0);
        x.put(1, 0);
        due.is("room for one", x.whyNotPut(2, 0), 0);
        x.hang(2);
        due.is("on the line", x.whyNotPut(2, 0), 1);
        x.handOver(1);
        due.is("handed over", x.whyNotPut(3, 0), 1);
        due.outOfBounds("whyNotPut(4, 0)", () -> x.whyNotPut(4, 0));
        due.outOfBounds("whyNotPut(-1, 0)", () -> x.whyNotPut(-1, 0));
        due.outOfBounds("whyNotPut(0, 2)", () -> x.whyNotPut(0, 2));
        due.outOfBounds("whyNotPut(0, -1)", () -> x.whyNotPut(0, -1));
    }

    private static void whyNotWash() {
        FlagLaundry x = Due.of(SETUP + "flag 0 3 0 0;flag 0 1 1 1;put 0 0");
        due.is("empty", x.whyNotWash(1, 0), 1);
        due.is("empty and hot", x.whyNotWash(1, 3), 1);
        due.is("can be", x.whyNotWash(0, 3), 0);
        x.put(1, 0);
        due.is("can be", x.whyNotWash(0, 1), 0);
        due.is("too hot for one", x.whyNotWash(0, 2), 2);
        due.outOfBounds("whyNotWash(2, 0)", () -> x.whyNotWash(2, 0));
        due.outOfBounds("whyNotWash(-1, 9)", () -> x.whyNotWash(-1, 9));
        due.refused("whyNotWash(0, 4)", () -> x.whyNotWash(0, 4));
        due.refused("whyNotWash(1, -1)", () -> x.whyNotWash(1, -1));
    }

    private static void whyNotIron() {
        FlagLaundry x = Due.of(SETUP + "flag 0 3 0 0;flag 0 2 0 1;put 0 0;put 1 0;wash 0 1");
        due.is("wet", x.whyNotIron(0, 3), 3);
        due.is("hot, wet and stained", x.whyNotIron(1, 3), 2);
        due.is("wet and stained", x.whyNotIron(1, 2), 3);
        x.hang(1);
        due.is("not in the basket", x.whyNotIron(1, 3), 1);
        x.pass(5);
        x.takeDown(1);
        due.is("WET 4", x.whyNotIron(1, 2), 3);
        x.hang(1);
        x.pass(1);
        x.takeDown(1);
        due.is("WET 3, stained", x.whyNotIron(1, 2), 4);
        x.bleach(1);
        due.is("can be", x.whyNotIron(1, 2), 0);
        due.is("can be, cold", x.whyNotIron(1, 0), 0);
        due.outOfBounds("whyNotIron(2, 0)", () -> x.whyNotIron(2, 0));
        due.outOfBounds("whyNotIron(-1, 4)", () -> x.whyNotIron(-1, 4));
        due.refused("whyNotIron(0, 4)", () -> x.whyNotIron(0, 4));
        due.refused("whyNotIron(0, -1)", () -> x.whyNotIron(0, -1));
    }

    private static void whyNotBleach() {
        FlagLaundry x = Due.of(SETUP + "flag 0 3 0 0;flag 0 2 0 1");
        for (int bleached = 0; bleached <= 2; bleached++) {
            due.is("not stained", x.whyNotBleach(1), 2);
            x.put(0, 0);
            x.put(1, 0);
            due.is("not in the basket", x.whyNotBleach(1), 1);
            x.wash(0, 0);
            due.is("stained", x.whyNotBleach(1), bleached == 2 ? 3 : 0);
            x.hang(1);
            due.is("not in the basket", x.whyNotBleach(1), 1);
            x.takeDown(1);
            if (bleached < 2) {
                x.bleach(1);
            }
        }
        due.outOfBounds("whyNotBleach(2)", () -> x.whyNotBleach(2));
        due.outOfBounds("whyNotBleach(-1)", () -> x.whyNotBleach(-1));
    }

    private static void withoutText() {
        FlagLaundry x = new FlagLaundry();
        due.noText("why", () -> x.why(0));
        due.noText("reasons", () -> x.reasons(-1));
        due.noText("culprit", () -> x.culprit(0));
        due.noText("whyNotPut", () -> x.whyNotPut(0, 0));
        due.noText("whyNotWash", () -> x.whyNotWash(0, 9));
        due.noText("whyNotIron", () -> x.whyNotIron(0, 9));
        due.noText("whyNotBleach", () -> x.whyNotBleach(0));
    }
}
