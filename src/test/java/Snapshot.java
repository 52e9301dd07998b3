/** All that an object tells of its laundry, as one text; what was written last changes. */
final class Snapshot {
    private Snapshot() {
    }

    static String of(FlagLaundry x) {
        StringBuilder all = new StringBuilder();
        for (int what = 0; what <= 15; what++) {
            all.append(x.count(what)).append(' ');
        }
        for (int c = 0; c < x.count(0); c++) {
            for (int what = 0; what <= 2; what++) {
                all.append(x.colour(c, what)).append(' ');
            }
        }
        for (int n = 0; n < x.count(1); n++) {
            for (int what = 0; what <= 6; what++) {
                all.append(x.nation(n, what)).append(' ');
            }
        }
        for (int f = 0; f < x.count(4); f++) {
            for (int what = 0; what <= 9; what++) {
                all.append(x.flag(f, what)).append(' ');
            }
        }
        for (int t = 0; t < x.count(2); t++) {
            all.append(text(x, x.writeTub(t))).append(' ');
            for (int what = 0; what <= 4; what++) {
                all.append(x.tub(t, what)).append(' ');
            }
        }
        all.append(text(x, x.writeLine())).append(' ').append(x.gap());
        return all.toString();
    }

    static String text(FlagLaundry x, int length) {
        StringBuilder text = new StringBuilder();
        for (int i = 0; i < length; i++) {
            text.append((char) x.textByte(i));
        }
        return text.toString();
    }
}
