import java.util.Arrays;

/** A laundry of flags, as ../shared/DOC.md promises it. */
public final class FlagLaundry {
    public static final int NONE = -1;

    private static final int MAX_BYTES = 500;
    private static final int BYTES_OF_APPEND = 20;
    private static final int MAX_TEXT = 100;

    private static final int MAX_COLOURS = 6;
    private static final int MAX_NATIONS = 4;
    private static final int MAX_TUBS = 3;
    private static final int MAX_ROOM = 6;
    private static final int MAX_PEGS = 8;
    private static final int MAX_FLAGS = 12;
    private static final int MAX_UNDO = 8;
    private static final int SLOTS = 2;

    private static final int MAX_RUNS = 4;
    private static final int MAX_DUE = 99;
    private static final int MAX_FEE = 99;
    private static final int MAX_FINE = 9;
    private static final int MAX_HEAT = 3;
    private static final int MAX_CARE = 3;
    private static final int MAX_DIRT = 9;
    private static final int MAX_WET = 9;
    private static final int MAX_CREASE = 9;
    private static final int MAX_BLEACHED = 2;
    private static final int MAX_WIND = 9;
    private static final int STORM = 7;
    private static final int MAX_WET_TO_IRON = 3;
    private static final int MAX_HOURS_TO_PASS = 50;
    private static final int MAX_HOURS_AHEAD = 99;
    private static final int FOR_EVER = 999;

    private static final int BASKET = 0;
    private static final int TUB = 1;
    private static final int LINE = 2;
    private static final int HANDED = 3;

    private static final int REASONS = 7;

    private final byte[] buffer;
    private int buffered;
    private int parseError;
    private int errorPosition;
    private boolean loaded;
    private Laundry now;
    private Laundry spare;
    private final Parser parser;
    private final History history;
    private final Text text;

    public FlagLaundry() {
        buffer = new byte[MAX_BYTES];
        buffered = 0;
        parseError = 0;
        errorPosition = NONE;
        loaded = false;
        now = new Laundry();
        spare = new Laundry();
        parser = new Parser();
        history = new History();
        text = new Text();
    }

    // ---- input

    public int append(int a, int b, int c, int d, int e) {
        if (buffered + BYTES_OF_APPEND > MAX_BYTES) {
            return NONE;
        }
        store(a);
        store(b);
        store(c);
        store(d);
        store(e);
        return buffered;
    }

    public int load(int n) throws IndexOutOfBoundsException, IllegalArgumentException {
        if (n < 0 || n > buffered) {
            throw new IndexOutOfBoundsException("not so many bytes in the buffer");
        }
        buffered = 0;
        // The text is read into the spare laundry, so that an error leaves the previous one as it is.
        parser.read(buffer, n, spare);
        parseError = parser.errorCode;
        errorPosition = parser.errorPosition;
        if (parseError != 0) {
            throw new IllegalArgumentException("the text has an error");
        }
        Laundry previous = now;
        now = spare;
        spare = previous;
        loaded = true;
        history.forgetAll();
        return now.state.flagCount;
    }

    public int parseError() {
        return parseError;
    }

    public int errorPosition() {
        return errorPosition;
    }

    public int buffered() {
        return buffered;
    }

    // ---- the laundry

    public int count(int what) throws IllegalStateException, IllegalArgumentException {
        needText();
        needRange(what, 0, 15);
        Setup setup = now.setup;
        State state = now.state;
        switch (what) {
            case 0: return setup.colours;
            case 1: return setup.nations;
            case 2: return setup.tubs;
            case 3: return setup.pegs;
            case 4: return state.flagCount;
            case 5: return state.hour;
            case 6: return state.wind;
            case 7: return state.flagsAt(BASKET);
            case 8: return state.flagsAt(TUB);
            case 9: return state.flagsAt(LINE);
            case 10: return state.flagsAt(HANDED);
            case 11: return state.earned;
            case 12: return state.fined;
            case 13: return state.washes;
            case 14: return state.falls;
            default: return state.readyFlags();
        }
    }

    public int colour(int c, int what)
            throws IllegalStateException, IndexOutOfBoundsException, IllegalArgumentException {
        needText();
        if (c < 0 || c >= now.setup.colours) {
            throw new IndexOutOfBoundsException("no such colour");
        }
        needRange(what, 0, 2);
        switch (what) {
            case 0: return now.setup.runs[c];
            case 1: return now.state.flagsWithColour(c);
            default: return now.state.flagsStainedBy(c);
        }
    }

    public int nation(int n, int what)
            throws IllegalStateException, IndexOutOfBoundsException, IllegalArgumentException {
        needNation(n);
        needRange(what, 0, 6);
        switch (what) {
            case 0: return now.setup.due[n];
            case 1: return now.setup.fee[n];
            case 2: return now.setup.fine[n];
            case 3: return now.state.flagsOf(n);
            case 4: return now.state.readyFlagsOf(n);
            case 5: return now.state.wasHandedOver(n) ? 1 : 0;
            default: return now.hoursLate(n);
        }
    }

    public int flag(int f, int what)
            throws IllegalStateException, IndexOutOfBoundsException, IllegalArgumentException {
        needFlag(f);
        needRange(what, 0, 9);
        Flag flag = now.state.flags[f];
        switch (what) {
            case 0: return flag.nation;
            case 1: return flag.colours;
            case 2: return flag.care;
            case 3: return flag.dirt;
            case 4: return flag.wet;
            case 5: return flag.crease;
            case 6: return flag.stains;
            case 7: return flag.bleached;
            case 8: return flag.place;
            default: return flag.spot;
        }
    }

    public int tub(int t, int what)
            throws IllegalStateException, IndexOutOfBoundsException, IllegalArgumentException {
        needTub(t);
        needRange(what, 0, 4);
        switch (what) {
            case 0: return now.setup.room[t];
            case 1: return now.state.tubSizes[t];
            case 2: return now.greatestHeat(t);
            case 3: return now.dirtIn(t);
            default: return now.coloursIn(t);
        }
    }

    public int inTub(int t, int i) throws IllegalStateException, IndexOutOfBoundsException {
        needTub(t);
        return i >= 0 && i < now.state.tubSizes[t] ? now.state.flagInTub(t, i) : NONE;
    }

    public int onPeg(int p) throws IllegalStateException, IndexOutOfBoundsException {
        needText();
        if (p < 0 || p >= now.setup.pegs) {
            throw new IndexOutOfBoundsException("no such peg");
        }
        return now.state.pegs[p];
    }

    public int freePegs() throws IllegalStateException {
        needText();
        return now.setup.pegs - now.state.flagsAt(LINE);
    }

    public int wettest() throws IllegalStateException {
        needText();
        return now.state.wettestOnLine();
    }

    public int gap() throws IllegalStateException {
        needText();
        return now.sumsThatDiffer();
    }

    // ---- reasons

    public int why(int f) throws IllegalStateException, IndexOutOfBoundsException {
        needFlag(f);
        return now.state.flags[f].firstReason();
    }

    public int reasons(int f) throws IllegalStateException, IndexOutOfBoundsException {
        needFlag(f);
        return now.state.flags[f].allReasons();
    }

    public int culprit(int n) throws IllegalStateException, IndexOutOfBoundsException {
        needNation(n);
        return now.state.firstNotReady(n);
    }

    public int whyNotPut(int f, int t) throws IllegalStateException, IndexOutOfBoundsException {
        needFlag(f);
        needTub(t);
        return now.reasonAgainstPut(f, t);
    }

    public int whyNotWash(int t, int heat)
            throws IllegalStateException, IndexOutOfBoundsException, IllegalArgumentException {
        needTub(t);
        needHeat(heat);
        return now.reasonAgainstWash(t, heat);
    }

    public int whyNotIron(int f, int heat)
            throws IllegalStateException, IndexOutOfBoundsException, IllegalArgumentException {
        needFlag(f);
        needHeat(heat);
        return now.state.flags[f].reasonAgainstIron(heat);
    }

    public int whyNotBleach(int f) throws IllegalStateException, IndexOutOfBoundsException {
        needFlag(f);
        return now.state.flags[f].reasonAgainstBleach();
    }

    // ---- what will be and would be

    public int running(int t, int heat)
            throws IllegalStateException, IndexOutOfBoundsException, IllegalArgumentException {
        needTub(t);
        needHeat(heat);
        return now.runningIn(t, heat);
    }

    public int stainedIf(int t, int heat)
            throws IllegalStateException, IndexOutOfBoundsException, IllegalArgumentException {
        needTub(t);
        needHeat(heat);
        return now.stainedBy(t, now.runningIn(t, heat));
    }

    public int dirtIf(int t, int heat)
            throws IllegalStateException, IndexOutOfBoundsException, IllegalArgumentException {
        needTub(t);
        needHeat(heat);
        return now.dirtLeftIn(t, heat);
    }

    public int bestHeat(int t) throws IllegalStateException, IndexOutOfBoundsException {
        needTub(t);
        return now.bestHeatFor(t);
    }

    public int firstSafe(int t, int heat)
            throws IllegalStateException, IndexOutOfBoundsException, IllegalArgumentException {
        needTub(t);
        needHeat(heat);
        return now.firstSafeFor(t, heat);
    }

    public int doNotMix(int f, int other, int heat)
            throws IllegalStateException, IndexOutOfBoundsException, IllegalArgumentException {
        needFlag(f);
        needFlag(other);
        needHeat(heat);
        return now.mixing(f, other, heat);
    }

    public int groups(int heat) throws IllegalStateException, IllegalArgumentException {
        needText();
        needHeat(heat);
        return now.groupsOfDirty(heat);
    }

    public int purest(int heat) throws IllegalStateException, IllegalArgumentException {
        needText();
        needHeat(heat);
        return now.purestInBasket(heat);
    }

    public int washesFor(int f) throws IllegalStateException, IndexOutOfBoundsException {
        needFlag(f);
        return now.state.flags[f].washesUntilClean();
    }

    public int dryIn(int f) throws IllegalStateException, IndexOutOfBoundsException {
        needFlag(f);
        return now.state.hoursToDry(f, now.state.wind);
    }

    public int dryByWind(int f, int wind)
            throws IllegalStateException, IndexOutOfBoundsException, IllegalArgumentException {
        needFlag(f);
        needRange(wind, 0, MAX_WIND);
        return now.state.hoursToDry(f, wind);
    }

    public int fallsIn(int hours) throws IllegalStateException, IllegalArgumentException {
        needText();
        needRange(hours, 0, MAX_HOURS_AHEAD);
        return now.state.wind >= STORM ? Math.min(hours, now.state.flagsAt(LINE)) : 0;
    }

    public int payIf(int n, int hours)
            throws IllegalStateException, IndexOutOfBoundsException, IllegalArgumentException {
        needNation(n);
        needRange(hours, 0, MAX_HOURS_AHEAD);
        return now.payAhead(n, hours);
    }

    public int latest(int n) throws IllegalStateException, IndexOutOfBoundsException {
        needNation(n);
        return now.lastPaidHour(n);
    }

    public int dearest() throws IllegalStateException {
        needText();
        return now.nationLosingMost();
    }

    public int ironsFor(int f, int heat)
            throws IllegalStateException, IndexOutOfBoundsException, IllegalArgumentException {
        needFlag(f);
        needHeat(heat);
        return now.state.flags[f].ironsUntilSmooth(heat);
    }

    // ---- other numbers

    public float readyShare() throws IllegalStateException {
        needText();
        int flags = now.state.flagCount;
        if (flags == 0) {
            return 0.0f;
        }
        return (float) (now.state.readyFlags() + now.state.flagsAt(HANDED)) / (float) flags;
    }

    public double meanDirt() throws IllegalStateException {
        needText();
        int flags = now.state.flagCount;
        if (flags == 0) {
            return 0.0;
        }
        return (double) now.state.dirtOfAll() / (double) flags;
    }

    // ---- texts

    public int writeFlag(int f) throws IllegalStateException, IndexOutOfBoundsException {
        needFlag(f);
        text.tellFlag(now.state.flags[f]);
        return text.length;
    }

    public int writeTub(int t) throws IllegalStateException, IndexOutOfBoundsException {
        needTub(t);
        text.tellTub(now.state, t);
        return text.length;
    }

    public int writeNation(int n) throws IllegalStateException, IndexOutOfBoundsException {
        needNation(n);
        text.tellNation(now.state, n);
        return text.length;
    }

    public int writeLine() throws IllegalStateException {
        needText();
        text.tellLine(now.state, now.setup.pegs);
        return text.length;
    }

    public int textByte(int i) throws IndexOutOfBoundsException {
        if (i < 0 || i >= text.length) {
            throw new IndexOutOfBoundsException("no such byte");
        }
        return text.bytes[i];
    }

    // ---- changes

    public int put(int f, int t)
            throws IllegalStateException, IndexOutOfBoundsException, IllegalArgumentException {
        needFlag(f);
        needTub(t);
        needAllowed(now.reasonAgainstPut(f, t) == 0);
        history.keep(now.state);
        return now.state.moveToTub(f, t);
    }

    public int wash(int t, int heat)
            throws IllegalStateException, IndexOutOfBoundsException, IllegalArgumentException {
        needTub(t);
        needHeat(heat);
        needAllowed(now.reasonAgainstWash(t, heat) == 0);
        history.keep(now.state);
        return now.washTub(t, heat);
    }

    public int hang(int f)
            throws IllegalStateException, IndexOutOfBoundsException, IllegalArgumentException {
        needFlag(f);
        needAllowed(now.canHang(f));
        history.keep(now.state);
        return now.hangOnFirstFree(f);
    }

    public int hangAll() throws IllegalStateException {
        needText();
        history.keep(now.state);
        return now.hangAllWet();
    }

    public int takeDown(int f)
            throws IllegalStateException, IndexOutOfBoundsException, IllegalArgumentException {
        needFlag(f);
        Flag flag = now.state.flags[f];
        needAllowed(flag.place == LINE || flag.place == TUB);
        history.keep(now.state);
        now.state.moveToBasket(f);
        return flag.wet;
    }

    public int clearTub(int t) throws IllegalStateException, IndexOutOfBoundsException {
        needTub(t);
        history.keep(now.state);
        return now.state.emptyTub(t);
    }

    public int iron(int f, int heat)
            throws IllegalStateException, IndexOutOfBoundsException, IllegalArgumentException {
        needFlag(f);
        needHeat(heat);
        Flag flag = now.state.flags[f];
        needAllowed(flag.reasonAgainstIron(heat) == 0);
        history.keep(now.state);
        flag.takeIron(heat);
        return flag.crease;
    }

    public int bleach(int f)
            throws IllegalStateException, IndexOutOfBoundsException, IllegalArgumentException {
        needFlag(f);
        Flag flag = now.state.flags[f];
        needAllowed(flag.reasonAgainstBleach() == 0);
        history.keep(now.state);
        return flag.takeBleach();
    }

    public int handOver(int n)
            throws IllegalStateException, IndexOutOfBoundsException, IllegalArgumentException {
        needNation(n);
        needAllowed(now.canHandOver(n));
        history.keep(now.state);
        return now.handOverAll(n);
    }

    public int pass(int hours) throws IllegalStateException, IllegalArgumentException {
        needText();
        needRange(hours, 1, MAX_HOURS_TO_PASS);
        history.keep(now.state);
        return now.state.passHours(hours);
    }

    public int setWind(int wind) throws IllegalStateException, IllegalArgumentException {
        needText();
        needRange(wind, 0, MAX_WIND);
        history.keep(now.state);
        int before = now.state.wind;
        now.state.wind = wind;
        return before;
    }

    public int addFlag(int n, int colours, int care, int dirt)
            throws IllegalStateException, IndexOutOfBoundsException, IllegalArgumentException {
        needNation(n);
        needRange(colours, 1, now.setup.allColours());
        needRange(care, 0, MAX_CARE);
        needRange(dirt, 0, MAX_DIRT);
        needAllowed(!now.state.wasHandedOver(n) && now.state.flagCount < MAX_FLAGS);
        history.keep(now.state);
        return now.state.bringFlag(n, colours, care, dirt);
    }

    public int undo() throws IllegalStateException {
        if (history.count == 0) {
            throw new IllegalStateException("nothing to undo");
        }
        history.takeBack(now.state);
        return history.count;
    }

    public int undoable() {
        return history.count;
    }

    public int save(int slot) throws IllegalStateException, IndexOutOfBoundsException {
        needText();
        needSlot(slot);
        history.saveIn(slot, now.state);
        return now.state.hour;
    }

    public int restore(int slot) throws IndexOutOfBoundsException, IllegalStateException {
        needSlot(slot);
        if (!history.isSaved[slot]) {
            throw new IllegalStateException("nothing is saved there");
        }
        history.fetchFrom(slot, now.state);
        return now.state.hour;
    }

    // What the calls above need of their arguments, in the order of their exceptions.

    private void needText() {
        if (!loaded) {
            throw new IllegalStateException("no text was loaded");
        }
    }

    private void needFlag(int f) {
        needText();
        if (f < 0 || f >= now.state.flagCount) {
            throw new IndexOutOfBoundsException("no such flag");
        }
    }

    private void needTub(int t) {
        needText();
        if (t < 0 || t >= now.setup.tubs) {
            throw new IndexOutOfBoundsException("no such tub");
        }
    }

    private void needNation(int n) {
        needText();
        if (n < 0 || n >= now.setup.nations) {
            throw new IndexOutOfBoundsException("no such nation");
        }
    }

    private static void needSlot(int slot) {
        if (slot < 0 || slot >= SLOTS) {
            throw new IndexOutOfBoundsException("no such slot");
        }
    }

    private static void needHeat(int heat) {
        needRange(heat, 0, MAX_HEAT);
    }

    private static void needRange(int value, int least, int most) {
        if (value < least || value > most) {
            throw new IllegalArgumentException("out of range");
        }
    }

    private static void needAllowed(boolean allowed) {
        if (!allowed) {
            throw new IllegalArgumentException("this can not be done now");
        }
    }

    private void store(int word) {
        for (int shift = 24; shift >= 0; shift -= 8) {
            buffer[buffered] = (byte) (word >> shift);
            buffered++;
        }
    }

    /** What only a text tells: nothing here changes after load. */
    private static final class Setup {
        int pegs;
        int colours;
        int nations;
        int tubs;
        final int[] runs;
        final int[] due;
        final int[] fee;
        final int[] fine;
        final int[] room;

        Setup() {
            runs = new int[MAX_COLOURS];
            due = new int[MAX_NATIONS];
            fee = new int[MAX_NATIONS];
            fine = new int[MAX_NATIONS];
            room = new int[MAX_TUBS];
        }

        void clear() {
            pegs = 0;
            colours = 0;
            nations = 0;
            tubs = 0;
        }

        void bringColour(int itsRuns) {
            runs[colours] = itsRuns;
            colours++;
        }

        void bringNation(int itsDue, int itsFee, int itsFine) {
            due[nations] = itsDue;
            fee[nations] = itsFee;
            fine[nations] = itsFine;
            nations++;
        }

        void bringTub(int itsRoom) {
            room[tubs] = itsRoom;
            tubs++;
        }

        int allColours() {
            return (1 << colours) - 1;
        }

        /** The colours that run with a HEAT, wherever they are. */
        int runningWith(int heat) {
            int running = 0;
            for (int c = 0; c < colours; c++) {
                if (runs[c] <= heat) {
                    running |= 1 << c;
                }
            }
            return running;
        }
    }

    /** A flag; sets of colours are numbers of which bit k is 1 for the colour k. */
    private static final class Flag {
        int nation;
        int colours;
        int care;
        int dirt;
        int wet;
        int crease;
        int stains;
        int bleached;
        int place;
        int spot;

        void begin(int itsNation, int itsColours, int itsCare, int itsDirt) {
            nation = itsNation;
            colours = itsColours;
            care = itsCare;
            dirt = itsDirt;
            wet = 0;
            crease = 0;
            stains = 0;
            bleached = 0;
            moveTo(BASKET, NONE);
        }

        void become(Flag other) {
            nation = other.nation;
            colours = other.colours;
            care = other.care;
            dirt = other.dirt;
            wet = other.wet;
            crease = other.crease;
            stains = other.stains;
            bleached = other.bleached;
            place = other.place;
            spot = other.spot;
        }

        void moveTo(int itsPlace, int itsSpot) {
            place = itsPlace;
            spot = itsSpot;
        }

        int allReasons() {
            return (place == HANDED ? 1 << 1 : 0)
                    | (place == TUB ? 1 << 2 : 0)
                    | (place == LINE ? 1 << 3 : 0)
                    | (dirt > 0 ? 1 << 4 : 0)
                    | (stains != 0 ? 1 << 5 : 0)
                    | (wet > 0 ? 1 << 6 : 0)
                    | (crease > 0 ? 1 << 7 : 0);
        }

        int firstReason() {
            int all = allReasons();
            for (int reason = 1; reason <= REASONS; reason++) {
                if ((all >> reason & 1) != 0) {
                    return reason;
                }
            }
            return 0;
        }

        boolean isReady() {
            return allReasons() == 0;
        }

        boolean bears(int heat) {
            return heat <= care;
        }

        int reasonAgainstIron(int heat) {
            if (place != BASKET) {
                return 1;
            }
            if (!bears(heat)) {
                return 2;
            }
            if (wet > MAX_WET_TO_IRON) {
                return 3;
            }
            return stains != 0 ? 4 : 0;
        }

        int reasonAgainstBleach() {
            if (place != BASKET) {
                return 1;
            }
            if (stains == 0) {
                return 2;
            }
            return bleached >= MAX_BLEACHED ? 3 : 0;
        }

        /** The colours that it can give to others: stains run as well. */
        int carried() {
            return colours | stains;
        }

        int newStains(int running) {
            return running & ~(colours | stains);
        }

        int dirtAfterWash(int heat) {
            return Math.max(0, dirt - 1 - 2 * heat);
        }

        void takeWash(int heat, int running) {
            stains |= newStains(running);
            dirt = dirtAfterWash(heat);
            wet = MAX_WET;
            crease = Math.min(MAX_CREASE, crease + 1 + heat);
        }

        void takeFall() {
            dirt = Math.min(MAX_DIRT, dirt + 1);
        }

        static int creaseAfterIron(int crease, int wet, int heat) {
            return Math.max(0, crease - 1 - heat - (wet > 0 ? 1 : 0));
        }

        static int wetAfterIron(int wet, int heat) {
            return Math.max(0, wet - heat);
        }

        void takeIron(int heat) {
            crease = creaseAfterIron(crease, wet, heat);
            wet = wetAfterIron(wet, heat);
        }

        int takeBleach() {
            int had = Integer.bitCount(stains);
            stains = 0;
            bleached++;
            return had;
        }

        int washesUntilClean() {
            int washes = 0;
            // Each wash takes at least 1 away, so MAX_DIRT washes are always enough.
            for (int left = dirt; left > 0 && washes < MAX_DIRT; left -= 1 + 2 * care) {
                washes++;
            }
            return washes;
        }

        int ironsUntilSmooth(int heat) {
            if (reasonAgainstIron(heat) != 0) {
                return NONE;
            }
            int irons = 0;
            int creaseThen = crease;
            int wetThen = wet;
            while (creaseThen > 0 && irons < MAX_CREASE) {
                creaseThen = creaseAfterIron(creaseThen, wetThen, heat);
                wetThen = wetAfterIron(wetThen, heat);
                irons++;
            }
            return irons;
        }
    }

    /** All that changes, and that undo and restore bring back. */
    private static final class State {
        int hour;
        int wind;
        int earned;
        int fined;
        int washes;
        int falls;
        int flagCount;
        final Flag[] flags;
        final int[] tubSizes;
        final int[] tubFlags;
        final int[] pegs;
        /** The hours by which a nation was late when its flags were handed over; NONE if they were not. */
        final int[] lateThen;

        State() {
            flags = new Flag[MAX_FLAGS];
            for (int f = 0; f < MAX_FLAGS; f++) {
                flags[f] = new Flag();
            }
            tubSizes = new int[MAX_TUBS];
            tubFlags = new int[MAX_TUBS * MAX_ROOM];
            pegs = new int[MAX_PEGS];
            lateThen = new int[MAX_NATIONS];
        }

        void clear() {
            hour = 0;
            wind = 0;
            earned = 0;
            fined = 0;
            washes = 0;
            falls = 0;
            flagCount = 0;
            Arrays.fill(tubSizes, 0);
            Arrays.fill(tubFlags, NONE);
            Arrays.fill(pegs, NONE);
            Arrays.fill(lateThen, NONE);
        }

        void become(State other) {
            hour = other.hour;
            wind = other.wind;
            earned = other.earned;
            fined = other.fined;
            washes = other.washes;
            falls = other.falls;
            flagCount = other.flagCount;
            for (int f = 0; f < MAX_FLAGS; f++) {
                flags[f].become(other.flags[f]);
            }
            System.arraycopy(other.tubSizes, 0, tubSizes, 0, MAX_TUBS);
            System.arraycopy(other.tubFlags, 0, tubFlags, 0, MAX_TUBS * MAX_ROOM);
            System.arraycopy(other.pegs, 0, pegs, 0, MAX_PEGS);
            System.arraycopy(other.lateThen, 0, lateThen, 0, MAX_NATIONS);
        }

        int bringFlag(int nation, int colours, int care, int dirt) {
            int f = flagCount;
            flags[f].begin(nation, colours, care, dirt);
            flagCount++;
            return f;
        }

        int flagInTub(int t, int i) {
            return tubFlags[t * MAX_ROOM + i];
        }

        Flag flagObjectInTub(int t, int i) {
            return flags[tubFlags[t * MAX_ROOM + i]];
        }

        boolean wasHandedOver(int n) {
            return lateThen[n] != NONE;
        }

        int flagsAt(int place) {
            int found = 0;
            for (int f = 0; f < flagCount; f++) {
                if (flags[f].place == place) {
                    found++;
                }
            }
            return found;
        }

        int readyFlags() {
            int found = 0;
            for (int f = 0; f < flagCount; f++) {
                if (flags[f].isReady()) {
                    found++;
                }
            }
            return found;
        }

        int flagsOf(int n) {
            int found = 0;
            for (int f = 0; f < flagCount; f++) {
                if (flags[f].nation == n) {
                    found++;
                }
            }
            return found;
        }

        int readyFlagsOf(int n) {
            int found = 0;
            for (int f = 0; f < flagCount; f++) {
                if (flags[f].nation == n && flags[f].isReady()) {
                    found++;
                }
            }
            return found;
        }

        int firstNotReady(int n) {
            for (int f = 0; f < flagCount; f++) {
                if (flags[f].nation == n && !flags[f].isReady()) {
                    return f;
                }
            }
            return NONE;
        }

        int flagsWithColour(int c) {
            int found = 0;
            for (int f = 0; f < flagCount; f++) {
                found += flags[f].colours >> c & 1;
            }
            return found;
        }

        int flagsStainedBy(int c) {
            int found = 0;
            for (int f = 0; f < flagCount; f++) {
                found += flags[f].stains >> c & 1;
            }
            return found;
        }

        int dirtOfAll() {
            int dirt = 0;
            for (int f = 0; f < flagCount; f++) {
                dirt += flags[f].dirt;
            }
            return dirt;
        }

        int wettestOnLine() {
            int wettest = NONE;
            int mostWet = NONE;
            for (int f = 0; f < flagCount; f++) {
                if (flags[f].place == LINE && flags[f].wet > mostWet) {
                    wettest = f;
                    mostWet = flags[f].wet;
                }
            }
            return wettest;
        }

        int moveToTub(int f, int t) {
            tubFlags[t * MAX_ROOM + tubSizes[t]] = f;
            tubSizes[t]++;
            flags[f].moveTo(TUB, t);
            return tubSizes[t];
        }

        void moveToPeg(int f, int p) {
            pegs[p] = f;
            flags[f].moveTo(LINE, p);
        }

        void moveToBasket(int f) {
            Flag flag = flags[f];
            if (flag.place == TUB) {
                dropFromTub(f, flag.spot);
            } else if (flag.place == LINE) {
                pegs[flag.spot] = NONE;
            }
            flag.moveTo(BASKET, NONE);
        }

        void dropFromTub(int f, int t) {
            int kept = 0;
            for (int i = 0; i < tubSizes[t]; i++) {
                int other = tubFlags[t * MAX_ROOM + i];
                if (other != f) {
                    tubFlags[t * MAX_ROOM + kept] = other;
                    kept++;
                }
            }
            tubSizes[t] = kept;
        }

        int emptyTub(int t) {
            int size = tubSizes[t];
            for (int i = 0; i < size; i++) {
                flagObjectInTub(t, i).moveTo(BASKET, NONE);
            }
            tubSizes[t] = 0;
            return size;
        }

        int lastPegInUse() {
            for (int p = MAX_PEGS - 1; p >= 0; p--) {
                if (pegs[p] != NONE) {
                    return p;
                }
            }
            return NONE;
        }

        int passHours(int hours) {
            int fallsBefore = falls;
            for (int h = 0; h < hours; h++) {
                dryOnLine(1 + wind / 3);
                if (wind >= STORM) {
                    dropLastFromLine();
                }
                hour++;
            }
            return falls - fallsBefore;
        }

        void dryOnLine(int less) {
            for (int f = 0; f < flagCount; f++) {
                if (flags[f].place == LINE) {
                    flags[f].wet = Math.max(0, flags[f].wet - less);
                }
            }
        }

        void dropLastFromLine() {
            int p = lastPegInUse();
            if (p == NONE) {
                return;
            }
            Flag flag = flags[pegs[p]];
            pegs[p] = NONE;
            flag.moveTo(BASKET, NONE);
            flag.takeFall();
            falls++;
        }

        int hoursToDry(int f, int windThen) {
            if (flags[f].place != LINE) {
                return NONE;
            }
            int hoursOnLine = windThen >= STORM ? hoursUntilFall(flags[f].spot) : MAX_HOURS_AHEAD;
            int hours = 0;
            for (int wet = flags[f].wet; wet > 0 && hours <= hoursOnLine; wet -= 1 + windThen / 3) {
                hours++;
            }
            return hours <= hoursOnLine ? hours : NONE;
        }

        /** In a storm each hour takes the flag on the last peg, so those behind a peg fall first. */
        int hoursUntilFall(int p) {
            int hours = 1;
            for (int later = p + 1; later < MAX_PEGS; later++) {
                if (pegs[later] != NONE) {
                    hours++;
                }
            }
            return hours;
        }
    }

    /** The rules that need both what the text told and what has changed since. */
    private static final class Laundry {
        final Setup setup;
        final State state;
        private final int[] groupOf;

        Laundry() {
            setup = new Setup();
            state = new State();
            groupOf = new int[MAX_FLAGS];
        }

        void clear() {
            setup.clear();
            state.clear();
        }

        // Tubs and washing

        int greatestHeat(int t) {
            int heat = MAX_HEAT;
            for (int i = 0; i < state.tubSizes[t]; i++) {
                heat = Math.min(heat, state.flagObjectInTub(t, i).care);
            }
            return heat;
        }

        int dirtIn(int t) {
            int dirt = 0;
            for (int i = 0; i < state.tubSizes[t]; i++) {
                dirt += state.flagObjectInTub(t, i).dirt;
            }
            return dirt;
        }

        int coloursIn(int t) {
            int colours = 0;
            for (int i = 0; i < state.tubSizes[t]; i++) {
                colours |= state.flagObjectInTub(t, i).colours;
            }
            return colours;
        }

        int carriedIn(int t) {
            int carried = 0;
            for (int i = 0; i < state.tubSizes[t]; i++) {
                carried |= state.flagObjectInTub(t, i).carried();
            }
            return carried;
        }

        int runningIn(int t, int heat) {
            return carriedIn(t) & setup.runningWith(heat);
        }

        int stainedBy(int t, int running) {
            int stained = 0;
            for (int i = 0; i < state.tubSizes[t]; i++) {
                if (state.flagObjectInTub(t, i).newStains(running) != 0) {
                    stained++;
                }
            }
            return stained;
        }

        int dirtLeftIn(int t, int heat) {
            int dirt = 0;
            for (int i = 0; i < state.tubSizes[t]; i++) {
                dirt += state.flagObjectInTub(t, i).dirtAfterWash(heat);
            }
            return dirt;
        }

        int reasonAgainstPut(int f, int t) {
            if (state.flags[f].place != BASKET) {
                return 1;
            }
            return state.tubSizes[t] >= setup.room[t] ? 2 : 0;
        }

        int reasonAgainstWash(int t, int heat) {
            if (state.tubSizes[t] == 0) {
                return 1;
            }
            return heat > greatestHeat(t) ? 2 : 0;
        }

        int washTub(int t, int heat) {
            int running = carriedIn(t) & setup.runningWith(heat);
            int stained = stainedBy(t, running);
            for (int i = 0; i < state.tubSizes[t]; i++) {
                state.flagObjectInTub(t, i).takeWash(heat, running);
            }
            state.emptyTub(t);
            state.washes++;
            return stained;
        }

        int bestHeatFor(int t) {
            if (state.tubSizes[t] == 0) {
                return NONE;
            }
            int best = 0;
            int fewest = stainedBy(t, runningIn(t, 0));
            int most = greatestHeat(t);
            for (int heat = 1; heat <= most; heat++) {
                int stained = stainedBy(t, runningIn(t, heat));
                if (stained < fewest
                        || stained == fewest && dirtLeftIn(t, heat) < dirtLeftIn(t, best)) {
                    best = heat;
                    fewest = stained;
                }
            }
            return best;
        }

        int firstSafeFor(int t, int heat) {
            if (heat > greatestHeat(t)) {
                return NONE;
            }
            for (int f = 0; f < state.flagCount; f++) {
                if (reasonAgainstPut(f, t) == 0 && isSafeWith(state.flags[f], t, heat)) {
                    return f;
                }
            }
            return NONE;
        }

        boolean isSafeWith(Flag flag, int t, int heat) {
            int running = (carriedIn(t) | flag.carried()) & setup.runningWith(heat);
            return flag.bears(heat) && flag.newStains(running) == 0 && stainedBy(t, running) == 0;
        }

        int mixing(int f, int other, int heat) {
            Flag first = state.flags[f];
            Flag second = state.flags[other];
            int running = setup.runningWith(heat);
            return (second.newStains(first.carried() & running) != 0 ? 1 : 0)
                    + (first.newStains(second.carried() & running) != 0 ? 2 : 0);
        }

        int groupsOfDirty(int heat) {
            int groups = 0;
            for (int f = 0; f < state.flagCount; f++) {
                Flag flag = state.flags[f];
                groupOf[f] = NONE;
                if (flag.place == BASKET && flag.dirt > 0 && flag.bears(heat)) {
                    int group = firstGroupFor(f, groups, heat);
                    groupOf[f] = group;
                    groups = Math.max(groups, group + 1);
                }
            }
            return groups;
        }

        /** A new group, which is the number of those that there are, if it mixes in each of them. */
        private int firstGroupFor(int f, int groups, int heat) {
            for (int group = 0; group < groups; group++) {
                if (!mixesInGroup(f, group, heat)) {
                    return group;
                }
            }
            return groups;
        }

        private boolean mixesInGroup(int f, int group, int heat) {
            for (int other = 0; other < f; other++) {
                if (groupOf[other] == group && mixing(f, other, heat) != 0) {
                    return true;
                }
            }
            return false;
        }

        int purestInBasket(int heat) {
            int purest = NONE;
            int fewest = MAX_FLAGS;
            for (int f = 0; f < state.flagCount; f++) {
                int mixes = mixesInBasket(f, heat);
                if (state.flags[f].place == BASKET && mixes < fewest) {
                    purest = f;
                    fewest = mixes;
                }
            }
            return purest;
        }

        private int mixesInBasket(int f, int heat) {
            int mixes = 0;
            for (int other = 0; other < state.flagCount; other++) {
                if (state.flags[other].place == BASKET && mixing(f, other, heat) != 0) {
                    mixes++;
                }
            }
            return mixes;
        }

        // The line

        int firstFreePeg() {
            for (int p = 0; p < setup.pegs; p++) {
                if (state.pegs[p] == NONE) {
                    return p;
                }
            }
            return NONE;
        }

        boolean canHang(int f) {
            return state.flags[f].place == BASKET && firstFreePeg() != NONE;
        }

        int hangOnFirstFree(int f) {
            int p = firstFreePeg();
            if (p != NONE) {
                state.moveToPeg(f, p);
            }
            return p;
        }

        int hangAllWet() {
            int hung = 0;
            for (int f = 0; f < state.flagCount; f++) {
                if (state.flags[f].wet > 0 && canHang(f)) {
                    hangOnFirstFree(f);
                    hung++;
                }
            }
            return hung;
        }

        // Nations

        int lateAt(int n, int hour) {
            return Math.max(0, hour - setup.due[n]);
        }

        int hoursLate(int n) {
            return state.wasHandedOver(n) ? state.lateThen[n] : lateAt(n, state.hour);
        }

        int payForEach(int n, int hour) {
            return Math.max(0, setup.fee[n] - setup.fine[n] * lateAt(n, hour));
        }

        int payAhead(int n, int hours) {
            return state.wasHandedOver(n) ? 0 : payForEach(n, state.hour + hours) * state.flagsOf(n);
        }

        int lastPaidHour(int n) {
            if (state.wasHandedOver(n) || state.flagsOf(n) == 0) {
                return NONE;
            }
            int fine = setup.fine[n];
            if (fine <= 0) {
                return FOR_EVER;
            }
            int last = setup.due[n] + (setup.fee[n] - 1) / fine;
            return last < state.hour ? NONE : last;
        }

        int nationLosingMost() {
            int dearest = NONE;
            int most = 0;
            for (int n = 0; n < setup.nations; n++) {
                int loss = payAhead(n, 0) - payAhead(n, 1);
                if (loss > most) {
                    dearest = n;
                    most = loss;
                }
            }
            return dearest;
        }

        boolean canHandOver(int n) {
            return state.flagsOf(n) > 0 && !state.wasHandedOver(n) && state.firstNotReady(n) == NONE;
        }

        int handOverAll(int n) {
            int paid = payAhead(n, 0);
            state.earned += paid;
            state.fined += setup.fee[n] * state.flagsOf(n) - paid;
            state.lateThen[n] = lateAt(n, state.hour);
            for (int f = 0; f < state.flagCount; f++) {
                if (state.flags[f].nation == n) {
                    state.flags[f].moveTo(HANDED, NONE);
                }
            }
            return paid;
        }

        int sumsThatDiffer() {
            int placed = state.flagsAt(BASKET) + state.flagsAt(TUB) + state.flagsAt(LINE)
                    + state.flagsAt(HANDED);
            int fees = 0;
            int stainedByOwn = 0;
            for (int f = 0; f < state.flagCount; f++) {
                Flag flag = state.flags[f];
                fees += flag.place == HANDED ? setup.fee[flag.nation] : 0;
                stainedByOwn += (flag.stains & flag.colours) != 0 ? 1 : 0;
            }
            return Math.abs(state.flagCount - placed)
                    + Math.abs(state.earned + state.fined - fees)
                    + stainedByOwn;
        }
    }

    /** The latest changes that can be undone, and what was saved. */
    private static final class History {
        int count;
        final boolean[] isSaved;
        private int oldest;
        private final State[] before;
        private final State[] saved;

        History() {
            before = new State[MAX_UNDO];
            for (int k = 0; k < MAX_UNDO; k++) {
                before[k] = new State();
            }
            saved = new State[SLOTS];
            for (int slot = 0; slot < SLOTS; slot++) {
                saved[slot] = new State();
            }
            isSaved = new boolean[SLOTS];
        }

        void forgetChanges() {
            count = 0;
            oldest = 0;
        }

        void forgetAll() {
            forgetChanges();
            for (int slot = 0; slot < SLOTS; slot++) {
                isSaved[slot] = false;
            }
        }

        /** The states stand in a ring, so that a ninth change takes the place of the oldest. */
        void keep(State state) {
            before[(oldest + count) % MAX_UNDO].become(state);
            if (count < MAX_UNDO) {
                count++;
            } else {
                oldest = (oldest + 1) % MAX_UNDO;
            }
        }

        void takeBack(State state) {
            if (count > 0) {
                count--;
                state.become(before[(oldest + count) % MAX_UNDO]);
            }
        }

        void saveIn(int slot, State state) {
            saved[slot].become(state);
            isSaved[slot] = true;
        }

        void fetchFrom(int slot, State state) {
            state.become(saved[slot]);
            forgetChanges();
        }
    }

    /** The text that was written last. */
    private static final class Text {
        int length;
        final int[] bytes;

        Text() {
            bytes = new int[MAX_TEXT];
        }

        void add(int letter) {
            if (length < MAX_TEXT) {
                bytes[length] = letter;
                length++;
            }
        }

        void addNumber(int number) {
            if (number >= 10) {
                add('0' + number / 10);
            }
            add('0' + number % 10);
        }

        void addBetween(int letter) {
            if (length > 0) {
                add(letter);
            }
        }

        void addHyphenIfEmpty() {
            if (length == 0) {
                add('-');
            }
        }

        static char letterOf(int place) {
            switch (place) {
                case BASKET: return 'b';
                case TUB: return 't';
                case LINE: return 'l';
                default: return 'g';
            }
        }

        void tellFlag(Flag flag) {
            length = 0;
            add(letterOf(flag.place));
            addNumber(flag.dirt);
            addNumber(flag.wet);
            addNumber(flag.crease);
            for (int c = 0; c < MAX_COLOURS; c++) {
                if ((flag.stains >> c & 1) != 0) {
                    add('+');
                    addNumber(c);
                }
            }
        }

        void tellTub(State state, int t) {
            length = 0;
            for (int i = 0; i < state.tubSizes[t]; i++) {
                addBetween(',');
                addNumber(state.flagInTub(t, i));
            }
            addHyphenIfEmpty();
        }

        void tellNation(State state, int n) {
            length = 0;
            for (int f = 0; f < state.flagCount; f++) {
                if (state.flags[f].nation == n) {
                    addBetween(' ');
                    addNumber(f);
                    add(':');
                    addNumber(state.flags[f].firstReason());
                }
            }
            addHyphenIfEmpty();
        }

        void tellLine(State state, int pegs) {
            length = 0;
            for (int p = 0; p < pegs; p++) {
                addBetween('/');
                if (state.pegs[p] == NONE) {
                    add('.');
                } else {
                    addNumber(state.pegs[p]);
                }
            }
        }
    }

    /** Reads a text into a laundry, token by token, up to its first error. */
    private static final class Parser {
        private static final int END = 0;
        private static final int WORD = 1;
        private static final int NUMBER = 2;
        private static final int SEMICOLON = 3;

        private static final int MAX_LETTERS = 6;
        private static final int MAX_DIGITS = 2;

        private static final int NOT_ALLOWED = 1;
        private static final int OUT_OF_BOUNDS = 2;
        private static final int REFUSED = 3;
        private static final int WRONG_COUNT = 4;

        int errorCode;
        int errorPosition;
        private byte[] bytes;
        private int length;
        private int position;
        private int kind;
        private int start;
        private int value;
        private Laundry laundry;

        Parser() {
            errorPosition = NONE;
        }

        void read(byte[] itsBytes, int itsLength, Laundry target) {
            bytes = itsBytes;
            length = Math.min(itsLength, itsBytes.length);
            position = 0;
            kind = END;
            errorCode = 0;
            errorPosition = NONE;
            laundry = target;
            laundry.clear();
            readFirstLine();
            // Each line has a byte at least, so there are never more of them than bytes.
            for (int lines = 0; lines < length && !failed() && kind == SEMICOLON; lines++) {
                readLine();
                next();
            }
            readEnd();
        }

        private boolean failed() {
            return errorCode != 0;
        }

        private void fail(int code) {
            if (errorCode == 0) {
                errorCode = code;
                errorPosition = start;
            }
        }

        // Tokens

        private boolean isLetterAt(int at) {
            return at < length && bytes[at] >= 'a' && bytes[at] <= 'z';
        }

        private boolean isDigitAt(int at) {
            return at < length && bytes[at] >= '0' && bytes[at] <= '9';
        }

        private void skipBlanks() {
            while (position < length && bytes[position] == ' ') {
                position++;
            }
        }

        private void next() {
            if (failed()) {
                return;
            }
            skipBlanks();
            start = position;
            if (position >= length) {
                kind = END;
            } else if (isLetterAt(position)) {
                kind = WORD;
                while (position < length && isLetterAt(position)) {
                    position++;
                }
            } else if (isDigitAt(position)) {
                kind = NUMBER;
                value = 0;
                while (position < length && isDigitAt(position)) {
                    value = value * 10 + bytes[position] - '0';
                    position++;
                }
            } else if (bytes[position] == ';') {
                kind = SEMICOLON;
                position++;
            } else {
                fail(NOT_ALLOWED);
            }
            int most = kind == WORD ? MAX_LETTERS : MAX_DIGITS;
            if (position - start > most) {
                fail(NOT_ALLOWED);
            }
        }

        private boolean isWord(String word) {
            if (kind != WORD || position - start != word.length()) {
                return false;
            }
            for (int i = 0; i < word.length(); i++) {
                if (bytes[start + i] != word.charAt(i)) {
                    return false;
                }
            }
            return true;
        }

        private boolean numberFollows() {
            skipBlanks();
            return !failed() && isDigitAt(position);
        }

        /** The number that comes next; NONE after an error. */
        private int number(int least, int most) {
            next();
            if (!failed() && kind != NUMBER) {
                fail(NOT_ALLOWED);
            }
            if (!failed() && (value < least || value > most)) {
                fail(OUT_OF_BOUNDS);
            }
            return failed() ? NONE : value;
        }

        // Lines

        private void readFirstLine() {
            next();
            if (!isWord("line")) {
                fail(NOT_ALLOWED);
            }
            int pegs = number(1, MAX_PEGS);
            if (!failed()) {
                laundry.setup.pegs = pegs;
            }
            next();
        }

        private void readEnd() {
            if (failed()) {
                return;
            }
            Setup setup = laundry.setup;
            if (kind != END) {
                fail(NOT_ALLOWED);
            } else if (setup.colours == 0 || setup.nations == 0 || setup.tubs == 0) {
                fail(WRONG_COUNT);
            }
        }

        private void readLine() {
            next();
            if (failed()) {
                return;
            }
            if (isWord("colour")) {
                readColour();
            } else if (isWord("nation")) {
                readNation();
            } else if (isWord("tub")) {
                readTub();
            } else if (isWord("flag")) {
                readFlag();
            } else if (isWord("put")) {
                readPut();
            } else if (isWord("wash")) {
                readWash();
            } else if (isWord("hang")) {
                readHang();
            } else if (isWord("wind")) {
                readWind();
            } else if (isWord("pass")) {
                readPass();
            } else {
                fail(NOT_ALLOWED);
            }
        }

        private void needPlaceFor(int count, int most) {
            if (count >= most) {
                fail(WRONG_COUNT);
            }
        }

        private void readColour() {
            needPlaceFor(laundry.setup.colours, MAX_COLOURS);
            int runs = number(0, MAX_RUNS);
            if (!failed()) {
                laundry.setup.bringColour(runs);
            }
        }

        private void readNation() {
            needPlaceFor(laundry.setup.nations, MAX_NATIONS);
            int due = number(0, MAX_DUE);
            int fee = number(1, MAX_FEE);
            int fine = number(0, MAX_FINE);
            if (!failed()) {
                laundry.setup.bringNation(due, fee, fine);
            }
        }

        private void readTub() {
            needPlaceFor(laundry.setup.tubs, MAX_TUBS);
            int room = number(1, MAX_ROOM);
            if (!failed()) {
                laundry.setup.bringTub(room);
            }
        }

        private void readFlag() {
            needPlaceFor(laundry.state.flagCount, MAX_FLAGS);
            int nation = number(0, laundry.setup.nations - 1);
            int care = number(0, MAX_CARE);
            int dirt = number(0, MAX_DIRT);
            int colours = 0;
            // A seventh COLOUR is out of bounds or there already: more rounds are never needed.
            for (int k = 0; k <= MAX_COLOURS && (k == 0 || numberFollows()); k++) {
                int c = number(0, laundry.setup.colours - 1);
                if (!failed() && (colours >> c & 1) != 0) {
                    fail(REFUSED);
                }
                if (!failed()) {
                    colours |= 1 << c;
                }
            }
            if (!failed()) {
                laundry.state.bringFlag(nation, colours, care, dirt);
            }
        }

        private void readPut() {
            int f = number(0, laundry.state.flagCount - 1);
            int t = number(0, laundry.setup.tubs - 1);
            if (failed()) {
                return;
            }
            if (laundry.reasonAgainstPut(f, t) != 0) {
                fail(REFUSED);
            } else {
                laundry.state.moveToTub(f, t);
            }
        }

        private void readWash() {
            int t = number(0, laundry.setup.tubs - 1);
            int heat = number(0, MAX_HEAT);
            if (failed()) {
                return;
            }
            if (laundry.reasonAgainstWash(t, heat) != 0) {
                fail(REFUSED);
            } else {
                laundry.washTub(t, heat);
            }
        }

        private void readHang() {
            int f = number(0, laundry.state.flagCount - 1);
            if (failed()) {
                return;
            }
            if (!laundry.canHang(f)) {
                fail(REFUSED);
            } else {
                laundry.hangOnFirstFree(f);
            }
        }

        private void readWind() {
            int wind = number(0, MAX_WIND);
            if (!failed()) {
                laundry.state.wind = wind;
            }
        }

        private void readPass() {
            int hours = number(1, MAX_HOURS_TO_PASS);
            if (!failed()) {
                laundry.state.passHours(hours);
            }
        }
    }
}
