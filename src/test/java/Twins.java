/**
 * Objects that are made alike, of which one has a call more: then it must answer all questions as the other one. For
 * each kind of questions they are made anew, as an object is promised for 512 calls alone.
 */
final class Twins {
    /** Makes an object, each time alike. */
    interface Maker {
        FlagLaundry make();
    }

    /** A call of an object. */
    interface Call {
        void of(FlagLaundry x);
    }

    /** A call of an object with one number that matters. */
    interface NumberCall {
        void of(FlagLaundry x, int number);
    }

    /** What may be asked in vain: one of these is due. */
    static final Class<?> NO_TEXT = IllegalStateException.class;
    static final Class<?> NO_SUCH = IndexOutOfBoundsException.class;
    static final Class<?> REFUSED = IllegalArgumentException.class;

    private final Due due;
    private final Maker maker;
    private final String[] answers = new String[Snapshot.KINDS];

    Twins(Due due, Maker maker) {
        this.due = due;
        this.maker = maker;
        for (int kind = 0; kind < Snapshot.KINDS; kind++) {
            answers[kind] = Snapshot.of(maker.make(), kind);
        }
    }

    /** Objects with that laundry that have seen something of everything: see lived(). */
    static Twins lived(Due due, String text) {
        return new Twins(due, () -> livedObject(text));
    }

    /** Three changes to undo, one state saved, a text written, a parse error told, and bytes in the buffer. */
    static FlagLaundry livedObject(String text) {
        FlagLaundry x = Due.of(text);
        int wind = x.count(6);
        x.save(0);
        x.setWind(9);
        x.clearTub(0);
        x.pass(1);
        x.undo();
        x.undo();
        x.undo();
        x.setWind(wind == 4 ? 5 : 4);
        x.pass(1);
        x.setWind(wind);
        x.writeLine();
        Due.type(x, "line 4;tub 7");
        try {
            x.load(12);
        } catch (IllegalArgumentException e) {
            // It was to be refused: parseError() is 2 now.
        }
        Due.type(x, "line 4;tub 2;nation");
        return x;
    }

    /** The call throws exactly that, and nothing that can be asked is different then. */
    void isThrown(String name, Class<?> want, Call call) {
        for (int kind = 0; kind < Snapshot.KINDS; kind++) {
            FlagLaundry x = maker.make();
            due.isThrown(name, () -> call.of(x), want);
            isAsBefore(name, x, kind);
        }
    }

    /** The call throws nothing, and nothing that can be asked is different then. */
    void isQuiet(String name, Call call) {
        for (int kind = 0; kind < Snapshot.KINDS; kind++) {
            FlagLaundry x = maker.make();
            if (isDone(name, x, call)) {
                isAsBefore(name, x, kind);
            }
        }
    }

    /** The change throws nothing, can be undone as one, and nothing that can be asked is different then. */
    void isUndone(String name, Call change) {
        for (int kind = 0; kind < Snapshot.KINDS; kind++) {
            FlagLaundry x = maker.make();
            int undoable = x.undoable();
            if (isDone(name, x, change)) {
                due.is(name + ", undoable", x.undoable(), undoable + 1);
                due.is(name + ", undo", x.undo(), undoable);
                isAsBefore(name + " and undo", x, kind);
            }
        }
    }

    /** A load throws, and what is no part of the input is not different then. */
    void isLoadRefused(String text) {
        for (int kind = Snapshot.INPUT + 1; kind < Snapshot.KINDS; kind++) {
            FlagLaundry x = maker.make();
            due.refused(text, () -> Due.loadAlone(x, text));
            due.is(text + " buffered", x.buffered(), 0);
            isAsBefore("load of " + text, x, kind);
        }
    }

    /** What is made in another way answers all questions alike, but for those of texts and of the input. */
    void isSame(String name, Maker other) {
        for (int kind = Snapshot.INPUT + 1; kind < Snapshot.KINDS; kind++) {
            isAsBefore(name, other.make(), kind);
        }
    }

    /** The call throws nothing. */
    void isAllowed(String name, Call call) {
        isDone(name, maker.make(), call);
    }

    /** What is asked from least to most changes nothing, and what is asked with other numbers throws. */
    void asks(String name, int least, int most, Class<?> want, NumberCall call) {
        if (least <= most) {
            isQuiet(name + "(" + least + ")", x -> call.of(x, least));
            isQuiet(name + "(" + most + ")", x -> call.of(x, most));
        }
        refuses(name, least, most, want, call);
    }

    /** What is done with numbers from least to most is done, and what is done with others throws. */
    void does(String name, int least, int most, Class<?> want, NumberCall call) {
        isAllowed(name + "(" + least + ")", x -> call.of(x, least));
        isAllowed(name + "(" + most + ")", x -> call.of(x, most));
        refuses(name, least, most, want, call);
    }

    /** Among the numbers that are out of bounds are some that would be in them if only a byte or two were looked at. */
    private void refuses(String name, int least, int most, Class<?> want, NumberCall call) {
        int[] wrong = {least - 1, most + 1, least - 256, least + 256, least + (1 << 16), Integer.MIN_VALUE,
            Integer.MIN_VALUE + least, Integer.MAX_VALUE};
        for (int number : wrong) {
            isThrown(name + "(" + number + ")", want, x -> call.of(x, number));
        }
    }

    private boolean isDone(String name, FlagLaundry x, Call call) {
        try {
            call.of(x);
            return true;
        } catch (RuntimeException e) {
            due.isTrue(name + " threw " + e, false);
            return false;
        }
    }

    private void isAsBefore(String name, FlagLaundry x, int kind) {
        String got = Snapshot.of(x, kind);
        due.isTrue(name + " changed answers: " + got + "\n were " + answers[kind], got.equals(answers[kind]));
    }
}
