/**
 * All that an object holds, read to the last item. Reading changes the object, so each part is read from one that is
 * made for it; a part stays under the document's 512 calls.
 */
final class Whole {
    static final int PARTS = 11;
    private static final int HALF = 20;

    private Whole() {
    }

    static String part(FirstOne x, int part) {
        StringBuilder s = new StringBuilder();
        if (part == 0) {
            kitchen(x, s);
        } else if (part == 1) {
            texts(x, s);
        } else if (part == 2) {
            image(x, s);
        } else {
            sheet(x, (part - 3) / 2, (part - 3) % 2 * HALF, s);
        }
        return s.toString();
    }

    private static void put(StringBuilder s, long v) {
        s.append(v).append(' ');
    }

    private static void table(FirstOne x, StringBuilder s) {
        for (int what = 0; what < 8; what++) {
            put(s, x.count(what));
        }
        for (int e = 0; e < 5; e++) {
            for (int what = 0; what < 6; what++) {
                put(s, x.told(e, what));
            }
        }
        for (int k = 0; k < 12; k++) {
            put(s, x.ready(k));
        }
    }

    private static void kitchen(FirstOne x, StringBuilder s) {
        table(x, s);
        for (int way = 1; way <= 3; way++) {
            for (int what = 0; what < 4; what++) {
                put(s, x.supper(way, 0, what));
            }
            for (int e = 0; e < 5; e++) {
                put(s, x.supper(way, 0, 10 + e));
                put(s, x.supper(way, 0, 20 + e));
                put(s, x.supper(way, 0, 30 + e));
            }
        }
        put(s, x.best(1, -1));
        put(s, x.keep(0));
        put(s, x.second());
        put(s, x.leave());
        put(s, x.drawn(5));
    }

    private static void texts(FirstOne x, StringBuilder s) {
        for (int t = 0; t < 6; t++) {
            put(s, x.force(t));
            put(s, x.ready(0));
            put(s, x.told(0, 5));
            put(s, x.supper(1, 0, 0));
        }
        put(s, x.count(4));
        put(s, x.text());
        put(s, x.count(4));
    }

    private static void image(FirstOne x, StringBuilder s) {
        put(s, x.back());
        table(x, s);
    }

    /** An item shows as the eater whom a sheet of just this one tells for cake 0. */
    private static void sheet(FirstOne x, int sheet, int from, StringBuilder s) {
        int sort = -1;
        for (int i = 0; i < 3; i++) {
            if (x.eaters(sheet, i, 0, 0) == 0) {
                sort = i;
            }
        }
        put(s, sort);
        int size = 0;
        while (size < 41 && x.copy(sheet, 0, sheet, 0, size + 1) == size + 1) {
            size++;
        }
        put(s, size);
        x.set(0, 0, 1);
        int other = (sheet + 1) % 4;
        x.sheet(other, sort, 1);
        for (int i = from; i < from + HALF && i < size; i++) {
            x.copy(sheet, i, other, 0, 1);
            for (int e = 0; e < 5; e++) {
                if (x.supper(0, other, 10 + e) == 1) {
                    put(s, e);
                }
            }
            s.append(';');
        }
    }
}
