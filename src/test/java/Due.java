import java.nio.charset.StandardCharsets;

/** What a test says is due, and how many answers were not. */
final class Due {
    /** A call that is to throw. */
    interface Call {
        void make();
    }

    private int right = 0;
    private int wrong = 0;

    void is(String call, double got, double want) {
        if (got == want) {
            right++;
        } else {
            wrong++;
            System.out.println(call + " answered " + got + ", due is " + want);
        }
    }

    void isText(String call, FlagLaundry x, int length, String want) {
        String got = Snapshot.text(x, length);
        isTrue(call + " wrote '" + got + "', due is '" + want + "'", got.equals(want));
        outOfBounds(call + " behind its text", () -> x.textByte(length));
    }

    void isTrue(String fault, boolean holds) {
        if (holds) {
            right++;
        } else {
            wrong++;
            System.out.println(fault);
        }
    }

    void noText(String call, Call made) {
        isThrown(call, made, IllegalStateException.class);
    }

    void noneThere(String call, Call made) {
        isThrown(call, made, IllegalStateException.class);
    }

    void outOfBounds(String call, Call made) {
        isThrown(call, made, IndexOutOfBoundsException.class);
    }

    void refused(String call, Call made) {
        isThrown(call, made, IllegalArgumentException.class);
    }

    /** Exactly that class: what the machine throws is of a class below it. */
    void isThrown(String call, Call made, Class<?> want) {
        Class<?> got = null;
        try {
            made.make();
        } catch (RuntimeException e) {
            got = e.getClass();
        }
        isTrue(call + " threw " + got + ", due is " + want, got == want);
    }

    void end() {
        System.out.println(right + " answers as due, " + wrong + " not");
        if (wrong != 0 || right == 0) {
            System.exit(1);
        }
    }

    /** Appends a text, filled up with blanks to whole calls. */
    static void type(FlagLaundry x, String text) {
        byte[] bytes = text.getBytes(StandardCharsets.ISO_8859_1);
        for (int at = 0; at < bytes.length; at += 20) {
            x.append(word(bytes, at), word(bytes, at + 4), word(bytes, at + 8), word(bytes, at + 12),
                    word(bytes, at + 16));
        }
    }

    private static int word(byte[] bytes, int at) {
        int word = 0;
        for (int i = at; i < at + 4; i++) {
            word = word << 8 | (i < bytes.length ? bytes[i] & 255 : ' ');
        }
        return word;
    }

    static int load(FlagLaundry x, String text) {
        type(x, text);
        return x.load(text.length());
    }

    /** As load(), of an object that may have bytes in its buffer. */
    static int loadAlone(FlagLaundry x, String text) {
        if (x.buffered() > 0) {
            try {
                x.load(0);
            } catch (IllegalArgumentException e) {
                // No text is none of these; the buffer is empty now.
            }
        }
        return load(x, text);
    }

    static FlagLaundry of(String text) {
        FlagLaundry x = new FlagLaundry();
        load(x, text);
        return x;
    }
}
