/**
 * What an object answers to all questions of a kind, as one text. No kind makes more than 400 calls, as an object is
 * promised for 512 alone; asking changes the object, so each kind is for an object of its own.
 */
final class Snapshot {
    static final int KINDS = 8;
    /** The kind that tells what a load may change even if it is refused. */
    static final int INPUT = 0;

    private Snapshot() {
    }

    static String of(FlagLaundry x, int kind) {
        StringBuilder all = new StringBuilder();
        if (kind == INPUT) {
            input(x, all);
        } else if (isLoaded(x)) {
            switch (kind) {
                case 1: laundry(x, all); break;
                case 2: reasons(x, all); break;
                case 3: outlook(x, all); break;
                case 4: mixing(x, all); break;
                case 5: texts(x, all); break;
                case 6: undone(x, all); break;
                default: restored(x, all);
            }
        }
        return all.toString();
    }

    static String text(FlagLaundry x, int length) {
        StringBuilder text = new StringBuilder();
        for (int i = 0; i < length; i++) {
            text.append((char) x.textByte(i));
        }
        return text.toString();
    }

    /** The numbers of flags, tubs and nations alone: for many of these of one object. */
    static String brief(FlagLaundry x) {
        StringBuilder all = new StringBuilder();
        brief(x, all);
        return all.toString();
    }

    private static boolean isLoaded(FlagLaundry x) {
        try {
            x.count(0);
            return true;
        } catch (IllegalStateException e) {
            return false;
        }
    }

    private static void add(StringBuilder all, double number) {
        all.append(number).append(' ');
    }

    private static void input(FlagLaundry x, StringBuilder all) {
        add(all, x.parseError());
        add(all, x.errorPosition());
        add(all, x.undoable());
        all.append('[').append(lastText(x)).append("] ");
        int bytes = x.buffered();
        add(all, bytes);
        try {
            add(all, x.load(bytes));
        } catch (IllegalArgumentException e) {
            all.append("error ");
        }
        add(all, x.parseError());
        add(all, x.errorPosition());
    }

    private static String lastText(FlagLaundry x) {
        StringBuilder text = new StringBuilder();
        try {
            while (text.length() < 200) {
                text.append((char) x.textByte(text.length()));
            }
        } catch (IndexOutOfBoundsException e) {
            return text.toString();
        }
        return "without an end";
    }

    private static void laundry(FlagLaundry x, StringBuilder all) {
        for (int what = 0; what <= 15; what++) {
            add(all, x.count(what));
        }
        for (int c = 0; c < x.count(0); c++) {
            for (int what = 0; what <= 2; what++) {
                add(all, x.colour(c, what));
            }
        }
        for (int n = 0; n < x.count(1); n++) {
            for (int what = 0; what <= 6; what++) {
                add(all, x.nation(n, what));
            }
        }
        for (int f = 0; f < x.count(4); f++) {
            for (int what = 0; what <= 9; what++) {
                add(all, x.flag(f, what));
            }
        }
        for (int t = 0; t < x.count(2); t++) {
            for (int what = 0; what <= 4; what++) {
                add(all, x.tub(t, what));
            }
        }
        for (int p = 0; p < x.count(3); p++) {
            add(all, x.onPeg(p));
        }
        add(all, x.freePegs());
        add(all, x.wettest());
        add(all, x.gap());
    }

    private static void reasons(FlagLaundry x, StringBuilder all) {
        int flags = x.count(4);
        int tubs = x.count(2);
        for (int f = 0; f < flags; f++) {
            add(all, x.why(f));
            add(all, x.reasons(f));
            add(all, x.whyNotBleach(f));
            add(all, x.washesFor(f));
            add(all, x.dryIn(f));
            for (int t = 0; t < tubs; t++) {
                add(all, x.whyNotPut(f, t));
            }
            for (int heat = 0; heat <= 3; heat++) {
                add(all, x.whyNotIron(f, heat));
                add(all, x.ironsFor(f, heat));
            }
            for (int wind = 0; wind <= 9; wind += 3) {
                add(all, x.dryByWind(f, wind));
            }
        }
        for (int n = 0; n < x.count(1); n++) {
            add(all, x.culprit(n));
        }
    }

    private static void outlook(FlagLaundry x, StringBuilder all) {
        for (int t = 0; t < x.count(2); t++) {
            for (int heat = 0; heat <= 3; heat++) {
                add(all, x.whyNotWash(t, heat));
                add(all, x.running(t, heat));
                add(all, x.stainedIf(t, heat));
                add(all, x.dirtIf(t, heat));
                add(all, x.firstSafe(t, heat));
            }
            add(all, x.bestHeat(t));
        }
        for (int heat = 0; heat <= 3; heat++) {
            add(all, x.groups(heat));
            add(all, x.purest(heat));
        }
        for (int n = 0; n < x.count(1); n++) {
            for (int hours = 0; hours <= 99; hours += 33) {
                add(all, x.payIf(n, hours));
            }
            add(all, x.latest(n));
        }
        for (int hours = 0; hours <= 99; hours += 3) {
            add(all, x.fallsIn(hours));
        }
        add(all, x.dearest());
        add(all, x.readyShare());
        add(all, x.meanDirt());
    }

    private static void mixing(FlagLaundry x, StringBuilder all) {
        int flags = x.count(4);
        for (int f = 0; f < flags; f++) {
            for (int other = 0; other <= f; other++) {
                for (int heat = 0; heat <= 3; heat++) {
                    add(all, x.doNotMix(f, other, heat));
                }
            }
        }
    }

    private static void texts(FlagLaundry x, StringBuilder all) {
        for (int f = 0; f < x.count(4); f++) {
            all.append(text(x, x.writeFlag(f))).append(' ');
        }
        for (int t = 0; t < x.count(2); t++) {
            all.append(text(x, x.writeTub(t))).append(' ');
        }
        for (int n = 0; n < x.count(1); n++) {
            all.append(text(x, x.writeNation(n))).append(' ');
        }
        all.append(text(x, x.writeLine()));
    }

    private static void brief(FlagLaundry x, StringBuilder all) {
        for (int what = 4; what <= 15; what++) {
            add(all, x.count(what));
        }
        int flags = x.count(4);
        for (int f = 0; f < flags; f++) {
            for (int what = 3; what <= 9; what++) {
                add(all, x.flag(f, what));
            }
        }
        for (int t = 0; t < x.count(2); t++) {
            int size = x.tub(t, 1);
            for (int i = 0; i < size; i++) {
                add(all, x.inTub(t, i));
            }
        }
        for (int n = 0; n < x.count(1); n++) {
            add(all, x.nation(n, 6));
        }
    }

    private static void undone(FlagLaundry x, StringBuilder all) {
        brief(x, all);
        for (int left = x.undoable(); left > 0; left--) {
            add(all, x.undo());
        }
        brief(x, all);
        add(all, x.undoable());
    }

    private static void restored(FlagLaundry x, StringBuilder all) {
        for (int slot = 0; slot <= 1; slot++) {
            try {
                add(all, x.restore(slot));
                brief(x, all);
            } catch (IllegalStateException e) {
                all.append("none ");
            }
        }
    }
}
