import java.util.ArrayDeque;
import java.util.ArrayList;
import java.util.Collections;
import java.util.Deque;
import java.util.HashMap;
import java.util.List;
import java.util.Map;
import java.util.Set;
import java.util.TreeSet;
import java.util.regex.Matcher;
import java.util.regex.Pattern;

/**
 * The document told a second time, with collections and by trying things out on copies, so that a slip in
 * FlagLaundry shows as a difference. Its calls are made by their names.
 */
final class Model {
    private static final class F {
        int nation;
        Set<Integer> colours = new TreeSet<>();
        Set<Integer> stains = new TreeSet<>();
        int care;
        int dirt;
        int wet;
        int crease;
        int bleached;

        F copy() {
            F f = new F();
            f.nation = nation;
            f.colours.addAll(colours);
            f.stains.addAll(stains);
            f.care = care;
            f.dirt = dirt;
            f.wet = wet;
            f.crease = crease;
            f.bleached = bleached;
            return f;
        }
    }

    /** The laundry; a copy of it is as good as the state, as nothing else of it ever changes. */
    private static final class S {
        int pegCount;
        List<Integer> runs = new ArrayList<>();
        List<int[]> nations = new ArrayList<>();
        List<Integer> rooms = new ArrayList<>();
        List<F> flags = new ArrayList<>();
        List<List<Integer>> tubs = new ArrayList<>();
        List<Integer> pegs = new ArrayList<>();
        Set<Integer> handed = new TreeSet<>();
        Map<Integer, Integer> late = new HashMap<>();
        int hour;
        int wind;
        int earned;
        int fined;
        int washes;
        int falls;

        S copy() {
            S s = new S();
            s.pegCount = pegCount;
            s.runs.addAll(runs);
            s.nations.addAll(nations);
            s.rooms.addAll(rooms);
            for (F f : flags) {
                s.flags.add(f.copy());
            }
            for (List<Integer> tub : tubs) {
                s.tubs.add(new ArrayList<>(tub));
            }
            s.pegs.addAll(pegs);
            s.handed.addAll(handed);
            s.late.putAll(late);
            s.hour = hour;
            s.wind = wind;
            s.earned = earned;
            s.fined = fined;
            s.washes = washes;
            s.falls = falls;
            return s;
        }

        int tubOf(int f) {
            for (int t = 0; t < tubs.size(); t++) {
                if (tubs.get(t).contains(f)) {
                    return t;
                }
            }
            return -1;
        }

        int place(int f) {
            return handed.contains(f) ? 3 : pegs.contains(f) ? 2 : tubOf(f) >= 0 ? 1 : 0;
        }

        boolean inBasket(int f) {
            return place(f) == 0;
        }

        int reasons(int f) {
            F flag = flags.get(f);
            int all = 0;
            all += handed.contains(f) ? 2 : 0;
            all += place(f) == 1 ? 4 : 0;
            all += place(f) == 2 ? 8 : 0;
            all += flag.dirt != 0 ? 16 : 0;
            all += flag.stains.isEmpty() ? 0 : 32;
            all += flag.wet != 0 ? 64 : 0;
            all += flag.crease != 0 ? 128 : 0;
            return all;
        }

        int why(int f) {
            int all = reasons(f);
            return all == 0 ? 0 : Integer.numberOfTrailingZeros(all);
        }

        List<Integer> flagsOf(int n) {
            List<Integer> its = new ArrayList<>();
            for (int f = 0; f < flags.size(); f++) {
                if (flags.get(f).nation == n) {
                    its.add(f);
                }
            }
            return its;
        }

        int culprit(int n) {
            for (int f : flagsOf(n)) {
                if (why(f) != 0) {
                    return f;
                }
            }
            return -1;
        }

        boolean isHanded(int n) {
            return late.containsKey(n);
        }

        int whyNotPut(int f, int t) {
            return !inBasket(f) ? 1 : tubs.get(t).size() == rooms.get(t) ? 2 : 0;
        }

        int whyNotWash(int t, int heat) {
            if (tubs.get(t).isEmpty()) {
                return 1;
            }
            for (int f : tubs.get(t)) {
                if (flags.get(f).care < heat) {
                    return 2;
                }
            }
            return 0;
        }

        int whyNotIron(int f, int heat) {
            F flag = flags.get(f);
            return !inBasket(f) ? 1 : heat > flag.care ? 2 : flag.wet > 3 ? 3 : !flag.stains.isEmpty() ? 4 : 0;
        }

        int whyNotBleach(int f) {
            F flag = flags.get(f);
            return !inBasket(f) ? 1 : flag.stains.isEmpty() ? 2 : flag.bleached == 2 ? 3 : 0;
        }

        Set<Integer> running(List<Integer> together, int heat) {
            Set<Integer> running = new TreeSet<>();
            for (int f : together) {
                running.addAll(flags.get(f).colours);
                running.addAll(flags.get(f).stains);
            }
            running.removeIf(c -> runs.get(c) > heat);
            return running;
        }

        /** Washes whether the flags bear it or not; tells those that got a stain more. */
        Set<Integer> washAnyway(List<Integer> together, int heat) {
            Set<Integer> running = running(together, heat);
            Set<Integer> stained = new TreeSet<>();
            for (int f : together) {
                F flag = flags.get(f);
                for (int c : running) {
                    if (!flag.colours.contains(c) && flag.stains.add(c)) {
                        stained.add(f);
                    }
                }
                flag.dirt = Math.max(flag.dirt - (1 + 2 * heat), 0);
                flag.wet = 9;
                flag.crease = Math.min(flag.crease + 1 + heat, 9);
            }
            return stained;
        }

        int wash(int t, int heat) {
            int stained = washAnyway(tubs.get(t), heat).size();
            tubs.get(t).clear();
            washes++;
            return stained;
        }

        int hang(int f) {
            int p = pegs.indexOf(null);
            pegs.set(p, f);
            return p;
        }

        int pass(int hours) {
            int fell = 0;
            for (int h = 0; h < hours; h++) {
                int last = -1;
                for (int p = 0; p < pegs.size(); p++) {
                    if (pegs.get(p) != null) {
                        F flag = flags.get(pegs.get(p));
                        flag.wet = Math.max(flag.wet - (1 + wind / 3), 0);
                        last = p;
                    }
                }
                if (wind >= 7 && last >= 0) {
                    F flag = flags.get(pegs.get(last));
                    flag.dirt = Math.min(flag.dirt + 1, 9);
                    pegs.set(last, null);
                    fell++;
                }
                hour++;
            }
            falls += fell;
            return fell;
        }

        int iron(int f, int heat) {
            F flag = flags.get(f);
            int less = 1 + heat + (flag.wet > 0 ? 1 : 0);
            flag.crease = Math.max(0, flag.crease - less);
            flag.wet = Math.max(0, flag.wet - heat);
            return flag.crease;
        }

        int lateBy(int n, int atHour) {
            return Math.max(0, atHour - nations.get(n)[0]);
        }

        int payEach(int n, int atHour) {
            return Math.max(0, nations.get(n)[1] - nations.get(n)[2] * lateBy(n, atHour));
        }

        int payIf(int n, int hours) {
            return isHanded(n) ? 0 : flagsOf(n).size() * payEach(n, hour + hours);
        }

        int handOver(int n) {
            int paid = 0;
            for (int f : flagsOf(n)) {
                int pay = payEach(n, hour);
                paid += pay;
                fined += nations.get(n)[1] - pay;
                handed.add(f);
            }
            earned += paid;
            late.put(n, lateBy(n, hour));
            return paid;
        }

        int addFlag(int n, Set<Integer> colours, int care, int dirt) {
            F f = new F();
            f.nation = n;
            f.colours.addAll(colours);
            f.care = care;
            f.dirt = dirt;
            flags.add(f);
            return flags.size() - 1;
        }
    }

    private S s = null;
    private final Deque<S> undo = new ArrayDeque<>();
    private final S[] saved = new S[2];
    private final StringBuilder buffer = new StringBuilder();
    private String text = "";
    private int parseError = 0;
    private int errorPosition = -1;

    /** Puts a text into the buffer. */
    void type(String itsText) {
        buffer.append(itsText);
    }

    /** What the call answers; it throws what the document says. */
    double call(String name, int... a) {
        switch (name) {
            case "append": return append(a);
            case "load": return load(a[0]);
            case "parseError": return parseError;
            case "errorPosition": return errorPosition;
            case "buffered": return buffer.length();
            case "textByte":
                needIndex(a[0], text.length());
                return text.charAt(a[0]);
            case "undoable": return undo.size();
            case "undo":
                if (undo.isEmpty()) {
                    throw new IllegalStateException();
                }
                s = undo.pop();
                return undo.size();
            case "restore":
                needIndex(a[0], 2);
                if (saved[a[0]] == null) {
                    throw new IllegalStateException();
                }
                s = saved[a[0]].copy();
                undo.clear();
                return s.hour;
            default:
                if (s == null) {
                    throw new IllegalStateException();
                }
                return callLoaded(name, a);
        }
    }

    private double callLoaded(String name, int[] a) {
        switch (name) {
            case "save":
                needIndex(a[0], 2);
                saved[a[0]] = s.copy();
                return s.hour;
            case "count": return count(a[0]);
            case "colour": return colour(a[0], a[1]);
            case "nation": return nation(a[0], a[1]);
            case "flag": return flag(a[0], a[1]);
            case "tub": return tub(a[0], a[1]);
            case "inTub": {
                List<Integer> tub = s.tubs.get(needTub(a[0]));
                return a[1] >= 0 && a[1] < tub.size() ? tub.get(a[1]) : -1;
            }
            case "onPeg": {
                needIndex(a[0], s.pegCount);
                Integer f = s.pegs.get(a[0]);
                return f == null ? -1 : f;
            }
            case "freePegs": return Collections.frequency(s.pegs, null);
            case "wettest": return wettest();
            case "gap": return 0;
            case "why": return s.why(needFlag(a[0]));
            case "reasons": return s.reasons(needFlag(a[0]));
            case "culprit": return s.culprit(needNation(a[0]));
            case "whyNotPut": return s.whyNotPut(needFlag(a[0]), needTub(a[1]));
            case "whyNotWash": return s.whyNotWash(needTub(a[0]), needRange(a[1], 0, 3));
            case "whyNotIron": return s.whyNotIron(needFlag(a[0]), needRange(a[1], 0, 3));
            case "whyNotBleach": return s.whyNotBleach(needFlag(a[0]));
            case "readyShare": return s.flags.isEmpty() ? 0 : (float) (ready() + s.handed.size()) / (float) s.flags.size();
            case "meanDirt": return s.flags.isEmpty() ? 0 : (double) dirt(s.flags) / (double) s.flags.size();
            default:
                if (name.startsWith("write")) {
                    return write(name, a);
                }
                return isChange(name) ? change(name, a) : outlook(name, a);
        }
    }

    static boolean isChange(String name) {
        return List.of("put", "wash", "hang", "hangAll", "takeDown", "clearTub", "iron", "bleach", "handOver", "pass",
                "setWind", "addFlag").contains(name);
    }

    private double outlook(String name, int[] a) {
        S then = s.copy();
        switch (name) {
            case "running": return bits(s.running(s.tubs.get(needTub(a[0])), needRange(a[1], 0, 3)));
            case "stainedIf": return then.washAnyway(then.tubs.get(needTub(a[0])), needRange(a[1], 0, 3)).size();
            case "dirtIf": {
                List<Integer> tub = then.tubs.get(needTub(a[0]));
                then.washAnyway(tub, needRange(a[1], 0, 3));
                return dirtOf(then, tub);
            }
            case "bestHeat": return bestHeat(needTub(a[0]));
            case "firstSafe": return firstSafe(needTub(a[0]), needRange(a[1], 0, 3));
            case "doNotMix": return doNotMix(needFlag(a[0]), needFlag(a[1]), needRange(a[2], 0, 3));
            case "groups": return groups(needRange(a[0], 0, 3));
            case "purest": return purest(needRange(a[0], 0, 3));
            case "washesFor": return washesFor(needFlag(a[0]));
            case "dryIn": return dryIn(needFlag(a[0]), s.wind);
            case "dryByWind": return dryIn(needFlag(a[0]), needRange(a[1], 0, 9));
            case "fallsIn": return then.pass(needRange(a[0], 0, 99));
            case "payIf": return s.payIf(needNation(a[0]), needRange(a[1], 0, 99));
            case "latest": return latest(needNation(a[0]));
            case "dearest": return dearest();
            case "ironsFor": return ironsFor(needFlag(a[0]), needRange(a[1], 0, 3));
            default: throw new AssertionError(name);
        }
    }

    /** On a copy, so that what is refused leaves nothing behind. */
    private double change(String name, int[] a) {
        S before = s;
        s = s.copy();
        try {
            double answer = changed(name, a);
            undo.push(before);
            while (undo.size() > 8) {
                undo.removeLast();
            }
            return answer;
        } catch (RuntimeException e) {
            s = before;
            throw e;
        }
    }

    /** Whether that change would be refused by nothing. */
    boolean accepts(String name, int... a) {
        if (s == null) {
            return false;
        }
        S before = s;
        s = s.copy();
        try {
            changed(name, a);
            return true;
        } catch (IndexOutOfBoundsException | IllegalArgumentException e) {
            return false;
        } finally {
            s = before;
        }
    }

    private double changed(String name, int[] a) {
        switch (name) {
            case "put":
                needNone(s.whyNotPut(needFlag(a[0]), needTub(a[1])));
                s.tubs.get(a[1]).add(a[0]);
                return s.tubs.get(a[1]).size();
            case "wash":
                needNone(s.whyNotWash(needTub(a[0]), needRange(a[1], 0, 3)));
                return s.wash(a[0], a[1]);
            case "hang":
                needNone(s.inBasket(needFlag(a[0])) && s.pegs.contains(null) ? 0 : 1);
                return s.hang(a[0]);
            case "hangAll": {
                int hung = 0;
                for (int f = 0; f < s.flags.size() && s.pegs.contains(null); f++) {
                    if (s.inBasket(f) && s.flags.get(f).wet != 0) {
                        s.hang(f);
                        hung++;
                    }
                }
                return hung;
            }
            case "takeDown":
                needNone(s.place(needFlag(a[0])) == 1 || s.place(a[0]) == 2 ? 0 : 1);
                Collections.replaceAll(s.pegs, a[0], null);
                for (List<Integer> tub : s.tubs) {
                    tub.remove((Integer) a[0]);
                }
                return s.flags.get(a[0]).wet;
            case "clearTub": {
                int flags = s.tubs.get(needTub(a[0])).size();
                s.tubs.get(a[0]).clear();
                return flags;
            }
            case "iron":
                needNone(s.whyNotIron(needFlag(a[0]), needRange(a[1], 0, 3)));
                return s.iron(a[0], a[1]);
            case "bleach": {
                needNone(s.whyNotBleach(needFlag(a[0])));
                int stains = s.flags.get(a[0]).stains.size();
                s.flags.get(a[0]).stains.clear();
                s.flags.get(a[0]).bleached++;
                return stains;
            }
            case "handOver":
                needNone(s.flagsOf(needNation(a[0])).isEmpty() || s.isHanded(a[0]) || s.culprit(a[0]) != -1 ? 1 : 0);
                return s.handOver(a[0]);
            case "pass": return s.pass(needRange(a[0], 1, 50));
            case "setWind": {
                int wind = s.wind;
                s.wind = needRange(a[0], 0, 9);
                return wind;
            }
            case "addFlag": {
                needNation(a[0]);
                Set<Integer> colours = new TreeSet<>();
                needNone(a[1] < 1 ? 1 : 0);
                for (int k = 0; k < 31; k++) {
                    if ((a[1] & 1 << k) != 0) {
                        needNone(k < s.runs.size() ? 0 : 1);
                        colours.add(k);
                    }
                }
                needNone(s.isHanded(a[0]) || s.flags.size() == 12 ? 1 : 0);
                return s.addFlag(a[0], colours, needRange(a[2], 0, 3), needRange(a[3], 0, 9));
            }
            default: throw new AssertionError(name);
        }
    }

    private int needFlag(int f) {
        return needIndex(f, s.flags.size());
    }

    private int needTub(int t) {
        return needIndex(t, s.tubs.size());
    }

    private int needNation(int n) {
        return needIndex(n, s.nations.size());
    }

    private static int needIndex(int i, int size) {
        if (i < 0 || i >= size) {
            throw new IndexOutOfBoundsException();
        }
        return i;
    }

    private static int needRange(int value, int least, int most) {
        if (value < least || value > most) {
            throw new IllegalArgumentException();
        }
        return value;
    }

    private static void needNone(int reason) {
        if (reason != 0) {
            throw new IllegalArgumentException();
        }
    }

    private static int bits(Set<Integer> set) {
        int bits = 0;
        for (int c : set) {
            bits += 1 << c;
        }
        return bits;
    }

    private static int dirt(List<F> flags) {
        return flags.stream().mapToInt(f -> f.dirt).sum();
    }

    private static int dirtOf(S s, List<Integer> tub) {
        return tub.stream().mapToInt(f -> s.flags.get(f).dirt).sum();
    }

    private int ready() {
        int ready = 0;
        for (int f = 0; f < s.flags.size(); f++) {
            ready += s.why(f) == 0 ? 1 : 0;
        }
        return ready;
    }

    private int at(int place) {
        int at = 0;
        for (int f = 0; f < s.flags.size(); f++) {
            at += s.place(f) == place ? 1 : 0;
        }
        return at;
    }

    private int count(int what) {
        needRange(what, 0, 15);
        return new int[] {s.runs.size(), s.nations.size(), s.rooms.size(), s.pegCount, s.flags.size(), s.hour, s.wind,
            at(0), at(1), at(2), at(3), s.earned, s.fined, s.washes, s.falls, ready()}[what];
    }

    private int colour(int c, int what) {
        needIndex(c, s.runs.size());
        needRange(what, 0, 2);
        int have = (int) s.flags.stream().filter(f -> f.colours.contains(c)).count();
        int stained = (int) s.flags.stream().filter(f -> f.stains.contains(c)).count();
        return new int[] {s.runs.get(c), have, stained}[what];
    }

    private int nation(int n, int what) {
        needNation(n);
        needRange(what, 0, 6);
        int[] told = s.nations.get(n);
        int ready = (int) s.flagsOf(n).stream().filter(f -> s.why(f) == 0).count();
        int late = s.isHanded(n) ? s.late.get(n) : s.lateBy(n, s.hour);
        return new int[] {told[0], told[1], told[2], s.flagsOf(n).size(), ready, s.isHanded(n) ? 1 : 0, late}[what];
    }

    private int flag(int f, int what) {
        needFlag(f);
        needRange(what, 0, 9);
        F flag = s.flags.get(f);
        int spot = Math.max(s.tubOf(f), s.pegs.indexOf(f));
        return new int[] {flag.nation, bits(flag.colours), flag.care, flag.dirt, flag.wet, flag.crease,
            bits(flag.stains), flag.bleached, s.place(f), spot}[what];
    }

    private int tub(int t, int what) {
        needTub(t);
        needRange(what, 0, 4);
        List<Integer> tub = s.tubs.get(t);
        int care = tub.stream().mapToInt(f -> s.flags.get(f).care).min().orElse(3);
        Set<Integer> colours = new TreeSet<>();
        tub.forEach(f -> colours.addAll(s.flags.get(f).colours));
        return new int[] {s.rooms.get(t), tub.size(), care, dirtOf(s, tub), bits(colours)}[what];
    }

    private int wettest() {
        int best = -1;
        for (int f = 0; f < s.flags.size(); f++) {
            if (s.place(f) == 2 && (best < 0 || s.flags.get(f).wet > s.flags.get(best).wet)) {
                best = f;
            }
        }
        return best;
    }

    private int bestHeat(int t) {
        int best = -1;
        int bestCost = Integer.MAX_VALUE;
        for (int heat = 0; heat <= 3; heat++) {
            S then = s.copy();
            List<Integer> tub = then.tubs.get(t);
            if (s.whyNotWash(t, heat) == 0) {
                int cost = 1000 * then.washAnyway(tub, heat).size() + dirtOf(then, tub);
                if (cost < bestCost) {
                    best = heat;
                    bestCost = cost;
                }
            }
        }
        return best;
    }

    private int firstSafe(int t, int heat) {
        for (int f = 0; f < s.flags.size(); f++) {
            S then = s.copy();
            if (then.whyNotPut(f, t) == 0) {
                then.tubs.get(t).add(f);
                if (then.whyNotWash(t, heat) == 0 && then.wash(t, heat) == 0) {
                    return f;
                }
            }
        }
        return -1;
    }

    private int doNotMix(int f, int other, int heat) {
        if (f == other) {
            return 0;
        }
        S then = s.copy();
        Set<Integer> stained = then.washAnyway(List.of(f, other), heat);
        // What one of two flags gets can only come from the other one: its own running colours it has.
        return (stained.contains(other) ? 1 : 0) + (stained.contains(f) ? 2 : 0);
    }

    private int groups(int heat) {
        List<List<Integer>> groups = new ArrayList<>();
        for (int f = 0; f < s.flags.size(); f++) {
            int flag = f;
            if (s.inBasket(f) && s.flags.get(f).dirt > 0 && s.flags.get(f).care >= heat) {
                List<Integer> group = groups.stream()
                        .filter(g -> g.stream().allMatch(o -> doNotMix(flag, o, heat) == 0)).findFirst().orElse(null);
                if (group == null) {
                    group = new ArrayList<>();
                    groups.add(group);
                }
                group.add(f);
            }
        }
        return groups.size();
    }

    private int purest(int heat) {
        int best = -1;
        long fewest = 99;
        for (int f = 0; f < s.flags.size(); f++) {
            long mixes = 0;
            for (int o = 0; o < s.flags.size(); o++) {
                mixes += s.inBasket(o) && o != f && doNotMix(o, f, heat) != 0 ? 1 : 0;
            }
            if (s.inBasket(f) && mixes < fewest) {
                best = f;
                fewest = mixes;
            }
        }
        return best;
    }

    private int washesFor(int f) {
        S then = s.copy();
        int washes = 0;
        while (then.flags.get(f).dirt > 0) {
            then.washAnyway(List.of(f), then.flags.get(f).care);
            washes++;
        }
        return washes;
    }

    private int dryIn(int f, int wind) {
        S then = s.copy();
        then.wind = wind;
        if (then.place(f) != 2) {
            return -1;
        }
        for (int hours = 0; hours <= 99; hours++) {
            if (then.flags.get(f).wet == 0) {
                return hours;
            }
            if (then.place(f) != 2) {
                return -1;
            }
            then.pass(1);
        }
        return -1;
    }

    private int latest(int n) {
        if (s.isHanded(n) || s.flagsOf(n).isEmpty()) {
            return -1;
        }
        if (s.nations.get(n)[2] == 0) {
            return 999;
        }
        int last = -1;
        for (int hour = s.hour; hour <= s.hour + 300; hour++) {
            if (s.payEach(n, hour) > 0) {
                last = hour;
            }
        }
        return last;
    }

    private int dearest() {
        int best = -1;
        int most = 0;
        for (int n = 0; n < s.nations.size(); n++) {
            int loss = s.payIf(n, 0) - s.payIf(n, 1);
            if (loss > most) {
                best = n;
                most = loss;
            }
        }
        return best;
    }

    private int ironsFor(int f, int heat) {
        S then = s.copy();
        if (s.whyNotIron(f, heat) != 0) {
            return -1;
        }
        int irons = 0;
        while (then.flags.get(f).crease > 0) {
            then.iron(f, heat);
            irons++;
        }
        return irons;
    }

    private int write(String name, int[] a) {
        List<String> parts = new ArrayList<>();
        switch (name) {
            case "writeFlag": {
                F flag = s.flags.get(needFlag(a[0]));
                StringBuilder told = new StringBuilder();
                told.append("btlg".charAt(s.place(a[0]))).append(flag.dirt).append(flag.wet).append(flag.crease);
                flag.stains.forEach(c -> told.append('+').append(c));
                text = told.toString();
                return text.length();
            }
            case "writeTub":
                s.tubs.get(needTub(a[0])).forEach(f -> parts.add("" + f));
                text = parts.isEmpty() ? "-" : String.join(",", parts);
                return text.length();
            case "writeNation":
                s.flagsOf(needNation(a[0])).forEach(f -> parts.add(f + ":" + s.why(f)));
                text = parts.isEmpty() ? "-" : String.join(" ", parts);
                return text.length();
            default:
                s.pegs.forEach(f -> parts.add(f == null ? "." : "" + f));
                text = String.join("/", parts);
                return text.length();
        }
    }

    private int append(int[] a) {
        if (buffer.length() + 20 > 500) {
            return -1;
        }
        for (int word : a) {
            for (int k = 3; k >= 0; k--) {
                buffer.append((char) (word >>> 8 * k & 255));
            }
        }
        return buffer.length();
    }

    private int load(int n) {
        if (n < 0 || n > buffer.length()) {
            throw new IndexOutOfBoundsException();
        }
        String parsed = buffer.substring(0, n);
        buffer.setLength(0);
        Reader reader = new Reader(parsed);
        S read = reader.read();
        parseError = reader.code;
        errorPosition = reader.position;
        if (read == null) {
            throw new IllegalArgumentException();
        }
        s = read;
        undo.clear();
        saved[0] = null;
        saved[1] = null;
        return s.flags.size();
    }

    /** Cuts the text into tokens by patterns first, and then follows the grammar. */
    private static final class Reader {
        private static final Pattern TOKEN = Pattern.compile(" *(?:([a-z]+)|([0-9]+)|(;)|(\\z)|([\\s\\S]))");
        private static final Map<String, int[][]> NUMBERS = Map.of(
                "line", new int[][] {{1, 8}}, "colour", new int[][] {{0, 4}}, "tub", new int[][] {{1, 6}},
                "nation", new int[][] {{0, 99}, {1, 99}, {0, 9}}, "wind", new int[][] {{0, 9}},
                "pass", new int[][] {{1, 50}}, "flag", new int[0][], "put", new int[0][], "wash", new int[0][],
                "hang", new int[0][]);

        int code = 0;
        int position = -1;
        private final Matcher matcher;
        private final S s = new S();

        Reader(String text) {
            matcher = TOKEN.matcher(text);
        }

        private static final class Wrong extends RuntimeException {
            private static final long serialVersionUID = 1;
        }

        S read() {
            try {
                token();
                need("line".equals(word()), 1);
                s.pegCount = numbers("line")[0];
                for (int p = 0; p < s.pegCount; p++) {
                    s.pegs.add(null);
                }
                token();
                while (matcher.group(3) != null) {
                    token();
                    line();
                }
                need(matcher.group(4) != null, 1);
                need(!s.runs.isEmpty() && !s.nations.isEmpty() && !s.rooms.isEmpty(), 4);
                return s;
            } catch (Wrong e) {
                return null;
            }
        }

        private void need(boolean holds, int itsCode) {
            if (!holds) {
                code = itsCode;
                int group = 1;
                while (matcher.group(group) == null) {
                    group++;
                }
                position = matcher.start(group);
                throw new Wrong();
            }
        }

        private void token() {
            if (!matcher.find()) {
                throw new AssertionError("behind the end");
            }
            need(matcher.group(5) == null, 1);
            need(word() == null || word().length() <= 6, 1);
            need(matcher.group(2) == null || matcher.group(2).length() <= 2, 1);
        }

        private String word() {
            return matcher.group(1);
        }

        private int number(int least, int most) {
            token();
            need(matcher.group(2) != null, 1);
            int value = Integer.parseInt(matcher.group(2));
            need(value >= least && value <= most, 2);
            return value;
        }

        private int[] numbers(String word) {
            int[][] bounds = NUMBERS.get(word);
            int[] numbers = new int[bounds.length];
            for (int i = 0; i < bounds.length; i++) {
                numbers[i] = number(bounds[i][0], bounds[i][1]);
            }
            return numbers;
        }

        private void line() {
            String word = word();
            need(word != null && NUMBERS.containsKey(word) && !word.equals("line"), 1);
            need(!word.equals("colour") || s.runs.size() < 6, 4);
            need(!word.equals("nation") || s.nations.size() < 4, 4);
            need(!word.equals("tub") || s.rooms.size() < 3, 4);
            need(!word.equals("flag") || s.flags.size() < 12, 4);
            int[] told = numbers(word);
            switch (word) {
                case "colour": s.runs.add(told[0]); break;
                case "nation": s.nations.add(told); break;
                case "tub":
                    s.rooms.add(told[0]);
                    s.tubs.add(new ArrayList<>());
                    break;
                case "wind": s.wind = told[0]; break;
                case "pass": s.pass(told[0]); break;
                case "flag":
                    flagLine();
                    return;
                default: commandLine(word);
            }
            token();
        }

        private void flagLine() {
            int nation = number(0, s.nations.size() - 1);
            int care = number(0, 3);
            int dirt = number(0, 9);
            Set<Integer> colours = new TreeSet<>();
            colours.add(number(0, s.runs.size() - 1));
            token();
            while (matcher.group(2) != null) {
                int colour = Integer.parseInt(matcher.group(2));
                need(colour < s.runs.size(), 2);
                need(colours.add(colour), 3);
                token();
            }
            s.addFlag(nation, colours, care, dirt);
        }

        private void commandLine(String word) {
            if (word.equals("put")) {
                int f = number(0, s.flags.size() - 1);
                int t = number(0, s.rooms.size() - 1);
                need(s.whyNotPut(f, t) == 0, 3);
                s.tubs.get(t).add(f);
            } else if (word.equals("wash")) {
                int t = number(0, s.rooms.size() - 1);
                int heat = number(0, 3);
                need(s.whyNotWash(t, heat) == 0, 3);
                s.wash(t, heat);
            } else {
                int f = number(0, s.flags.size() - 1);
                need(s.inBasket(f) && s.pegs.contains(null), 3);
                s.hang(f);
            }
        }
    }
}
