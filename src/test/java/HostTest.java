/** Promises 23 to 27: sheet, cell, copy, eaters, taken. */
public final class HostTest {
    public static void main(String[] args) {
        sheet();
        sheetRefuses();
        cell();
        cellRefuses();
        copy();
        copyRefuses();
        eaters();
        eatersLeftOut();
        eatersRefuse();
        taken();
        takenRefuses();
        Due.close("HostTest");
    }

    private static void sheet() {
        FirstOne x = new FirstOne();
        for (int sort = 0; sort < 3; sort++) {
            for (int sheet = 0; sheet < 4; sheet++) {
                Due.is("23: a row", x.sheet(sheet, sort, 10 * sheet + 10), 1);
                Due.is("23: its last item", x.cell(sheet, 10 * sheet + 9, 5), 1);
                Due.is("23: behind it", x.cell(sheet, 10 * sheet + 10, 5), -12);
            }
        }
        Due.is("23: missing", x.sheet(2, -1, 99), 1);
        Due.is("23: missing", x.cell(2, 0, 1), -11);
        Due.is("23: missing, n does not matter", x.sheet(1, -1, -99), 1);
        Due.is("23: missing", x.cell(1, 0, 1), -11);
        Due.is("23: the others stay", x.cell(0, 9, 1), 1);
        Due.is("23: the others stay", x.cell(3, 39, 1), 1);
        Due.is("23: of none", x.sheet(2, 1, 0), 1);
        Due.is("23: of none, but not missing", x.cell(2, 0, 0), -12);
        // All 0: a plate of 8 and nothing more.
        x.eater(0, 0, 1);
        x.eater(0, 0, 1);
        Kitchen.row(x, 0, 0, 8, 7);
        Due.is("23: as put", x.plates(0, 1), 0);
        x.sheet(0, 0, 2);
        x.cell(0, 0, 8);
        Due.is("23: all are 0 again", x.plates(0, 1), 1);
        x.sheet(0, -1, 0);
        x.sheet(0, 2, 2);
        x.cell(0, 1, 8);
        Due.is("23: all are 0 again", x.plates(0, 1), 1);
    }

    private static void sheetRefuses() {
        FirstOne x = new FirstOne();
        x.eater(0, 3, 1);
        Kitchen.row(x, 0, 0, 8);
        Kitchen.row(x, 1, 1, 33);
        String before = Seen.of(x);
        int[][] bad = {{-1, 0, 1}, {4, 0, 1}, {-1, 0, -1}, {0, -2, 1}, {0, 3, 1}, {0, 3, -1}, {0, 0, 41}, {1, 2, 41},
            {-1, -1, 0}, {4, -1, 0}, {Integer.MAX_VALUE, 0, 1}, {Integer.MIN_VALUE, 0, 1}, {0, Integer.MAX_VALUE, 1},
            {0, Integer.MIN_VALUE, 1}, {0, 0, Integer.MAX_VALUE}};
        for (int[] b : bad) {
            Due.is("23: sheet " + b[0] + " " + b[1] + " " + b[2], x.sheet(b[0], b[1], b[2]), FirstOne.BAD);
        }
        Due.is("23: below 0", x.sheet(0, 0, -1), -14);
        Due.is("23: below 0", x.sheet(1, 2, Integer.MIN_VALUE), -14);
        Seen.same("23: sheet", before, x);
    }

    private static void cell() {
        FirstOne x = new FirstOne();
        x.eater(0, 0, 1);
        // Eaten in minute 33 at last.
        int[][] so = {{0, 33, 1}, {0, 33 + 256, 1}, {0, 33 - 256, 1}, {0, 33 + 65536, 1}, {0, 33 + 128, 0},
            {1, 33, 1}, {1, 33 + 256, 0}, {1, 33 + 65536, 1}, {1, 33 - 65536, 1}, {1, 33 + 32768, 0},
            {2, 33, 1}, {2, 33 + 256, 0}, {2, 33 + 65536, 0}};
        for (int[] s : so) {
            x.sheet(0, s[0], 1);
            Due.is("24: put", x.cell(0, 0, s[1]), 1);
            Due.is("24: " + s[1] + " in a row of sort " + s[0], x.eaten(0, 0) == 1 << 1 ? 1 : 0, s[2]);
        }
        x.set(0, 0, 0);
        // None given: NONE is -1, in bytes and shorts, too.
        int[][] none = {{0, -1, 1}, {0, 255, 1}, {0, 127, 0}, {1, -1, 1}, {1, 65535, 1}, {1, 255, 0}, {2, -1, 1},
            {2, 65535, 0}, {2, 255, 0}};
        for (int[] s : none) {
            x.sheet(0, s[0], 1);
            x.cell(0, 0, s[1]);
            Due.is("24: " + s[1] + " in a row of sort " + s[0], x.eaten(0, -1), 1 - s[2]);
        }
    }

    private static void cellRefuses() {
        FirstOne x = new FirstOne();
        x.eater(0, 3, 1);
        Kitchen.row(x, 0, 0, 33);
        Kitchen.row(x, 1, 1);
        String before = Seen.of(x);
        int[][] wrong = {{-1, 0, -2}, {4, 0, -2}, {4, 9, -2}, {2, 0, -11}, {2, -1, -11}, {3, 40, -11}, {0, 1, -12},
            {0, -1, -12}, {0, 40, -12}, {1, 0, -12}, {Integer.MAX_VALUE, 0, -2}, {Integer.MIN_VALUE, 0, -2},
            {0, Integer.MAX_VALUE, -12}, {0, Integer.MIN_VALUE, -12}};
        for (int[] w : wrong) {
            Due.is("24: cell " + w[0] + " " + w[1], x.cell(w[0], w[1], 5), w[2]);
        }
        Seen.same("24: cell", before, x);
    }

    /** The items of a row, seen by who has had how many of so many cakes. */
    private static void items(String what, FirstOne x, int sheet, int... due) {
        for (int i = 0; i < due.length; i++) {
            x.sheet(3, 2, 1);
            Due.is(what + ": copied out", x.copy(sheet, i, 3, 0, 1), 1);
            x.set(0, 0, 1);
            for (int e = 0; e < 5; e++) {
                Due.is(what + ", item " + i, x.supper(0, 3, 10 + e), due[i] == e ? 1 : 0);
            }
        }
    }

    private static void copy() {
        FirstOne x = new FirstOne();
        for (int e = 0; e < 5; e++) {
            x.eater(0, 0, 1);
        }
        Kitchen.row(x, 0, 2, 0, 1, 2, 3, 4);
        Kitchen.row(x, 1, 2, 4, 4, 4, 4);
        Due.is("25: to another one", x.copy(0, 1, 1, 0, 3), 3);
        items("25: to another one", x, 1, 1, 2, 3, 4);
        items("25: from one", x, 0, 0, 1, 2, 3, 4);
        Due.is("25: onto itself, forward", x.copy(0, 0, 0, 1, 4), 4);
        items("25: onto itself, as they were", x, 0, 0, 0, 1, 2, 3);
        Due.is("25: onto itself, back", x.copy(0, 1, 0, 0, 4), 4);
        items("25: onto itself, as they were", x, 0, 0, 1, 2, 3, 3);
        Due.is("25: none", x.copy(0, 5, 1, 4, 0), 0);
        Due.is("25: none", x.copy(0, 0, 0, 0, 0), 0);
        Due.is("25: all", x.copy(0, 0, 0, 0, 5), 5);
        items("25: all", x, 0, 0, 1, 2, 3, 3);
        FirstOne y = new FirstOne();
        y.eater(0, 0, 1);
        for (int sort = 0; sort < 3; sort++) {
            Kitchen.row(y, 0, sort, 5, 33);
            Kitchen.row(y, 1, sort, 6);
            Due.is("25: of sort " + sort, y.copy(0, 1, 1, 0, 1), 1);
            Due.is("25: of sort " + sort, y.eaten(1, -1), 0);
        }
    }

    private static void copyRefuses() {
        FirstOne x = new FirstOne();
        x.eater(0, 3, 1);
        Kitchen.row(x, 0, 0, 33);
        Kitchen.row(x, 1, 1, 1, 2, 3);
        Kitchen.row(x, 2, 1, 4, 5);
        String before = Seen.of(x);
        int max = Integer.MAX_VALUE;
        int min = Integer.MIN_VALUE;
        int[][] wrong = {{-1, 0, 0, 0, 1, -2}, {4, 0, 0, 0, 1, -2}, {0, 0, -1, 0, 1, -2}, {0, 0, 4, 0, 1, -2},
            {3, 0, 4, 0, 1, -2}, {max, 0, 0, 0, 1, -2}, {0, 0, min, 0, 1, -2},
            {3, 0, 0, 0, 1, -11}, {0, 0, 3, 0, 1, -11}, {3, 0, 3, 0, 0, -11}, {3, -1, 0, -1, -1, -11},
            {0, 0, 1, 0, 1, -13}, {1, 0, 0, 0, 1, -13}, {0, 9, 1, 9, 9, -13}, {0, -1, 1, -1, -1, -13},
            {0, 0, 1, 0, 0, -13},
            {1, -1, 2, 0, 1, -12}, {1, 0, 2, -1, 1, -12}, {1, 0, 2, 0, -1, -12}, {1, 2, 2, 0, 2, -12},
            {1, 0, 2, 1, 2, -12}, {1, 0, 2, 0, 3, -12}, {2, 0, 1, 0, 3, -12}, {1, 4, 2, 0, 0, -12},
            {1, 0, 2, 3, 0, -12}, {1, max, 2, 0, 1, -12}, {1, 0, 2, max, 1, -12}, {1, 0, 2, 0, max, -12},
            {1, 1, 2, 1, max, -12}, {1, min, 2, 0, 1, -12}, {1, 0, 2, min, 1, -12}, {1, 0, 2, 0, min, -12},
            {1, max, 2, max, max, -12}, {1, min, 2, min, min, -12}, {1, 0, 1, 0, 4, -12}};
        for (int[] w : wrong) {
            Due.is("25: copy " + w[0] + " " + w[1] + " " + w[2] + " " + w[3] + " " + w[4],
                x.copy(w[0], w[1], w[2], w[3], w[4]), w[5]);
        }
        Seen.same("25: copy", before, x);
    }

    private static void eaters() {
        for (int sort = 0; sort < 3; sort++) {
            FirstOne x = new FirstOne();
            Kitchen.row(x, 0, sort, 99, 1, 12, 20, 5, 107, 1, 3, 0, 2);
            Due.is("26: none", x.eaters(0, sort, 1, 0), 0);
            Due.is("26: nobody came", x.count(0), 0);
            Due.is("26: three", x.eaters(0, sort, 1, 3), 3);
            Due.is("26: three came", x.count(0), 3);
            Due.is("26: KIND", x.told(0, 0), 1);
            Due.is("26: WANT", x.told(0, 3), 12);
            Due.is("26: PACE", x.told(0, 4), 20);
            Due.is("26: KIND", x.told(1, 0), 5);
            Due.is("26: NUMBER", x.told(1, 2), 1);
            Due.is("26: WANT", x.told(1, 3), 7);
            Due.is("26: KIND", x.told(2, 0), 3);
            Due.is("26: PACE", x.told(2, 4), 2);
            Due.is("26: one more", x.eaters(0, sort, 4, 1), 1);
            Due.is("26: from there on", x.told(3, 0), 5);
        }
    }

    private static void eatersLeftOut() {
        FirstOne x = new FirstOne();
        Kitchen.row(x, 0, 1, 0, 912, 20, 6, 0, 1, 1, 13, 1, 2, 0, 0, 5, 100, 5);
        Due.is("26: three are left out", x.eaters(0, 1, 0, 5), 2);
        Due.is("26: two came", x.count(0), 2);
        Due.is("26: the last one came", x.told(1, 0), 5);
        Due.is("26: what stood ahead came", x.eaters(0, 1, 12, 2), -12);
        Due.is("26: it came", x.count(0), 3);
        Due.is("26: no whole one stood there", x.eaters(0, 1, 13, 1), -12);
        Due.is("26: none came", x.count(0), 3);
        x.sheet(0, 0, 15);
        for (int i = 2; i < 15; i += 3) {
            x.cell(0, i, 1);
        }
        Due.is("26: the others don't fit the table", x.eaters(0, 0, 0, 5), 2);
        Due.is("26: full", x.count(0), 5);
        Due.is("26: full", x.eaters(0, 0, 0, 5), 0);
        Due.is("26: full, and outside", x.eaters(0, 0, 3, 5), -12);
        Due.is("26: none, from outside", x.eaters(0, 0, 99, 0), 0);
    }

    private static void eatersRefuse() {
        FirstOne x = new FirstOne();
        Kitchen.row(x, 0, 0, 0, 5, 1, 1, 5);
        String before = Seen.of(x);
        int max = Integer.MAX_VALUE;
        int min = Integer.MIN_VALUE;
        int[][] wrong = {{-1, 0, 0, 1, -2}, {4, 0, 0, 1, -2}, {0, -1, 0, 1, -2}, {0, 3, 0, 1, -2}, {0, 0, 0, -1, -2},
            {0, 0, 0, 6, -2}, {1, 0, 0, 6, -2}, {1, 3, 0, 1, -2}, {max, 0, 0, 1, -2}, {min, 0, 0, 1, -2},
            {0, max, 0, 1, -2}, {0, min, 0, 1, -2}, {0, 0, 0, max, -2}, {0, 0, 0, min, -2},
            {0, 1, 0, 1, -13}, {0, 2, 0, 0, -13}, {0, 1, 99, 1, -13}, {0, 2, min, 5, -13},
            {1, 0, 0, 1, -11}, {1, 1, 0, 0, -11}, {1, 2, -1, 1, -11},
            {0, 0, -1, 1, -12}, {0, 0, 3, 1, -12}, {0, 0, 5, 1, -12}, {0, 0, -3, 2, -12}, {0, 0, max, 1, -12},
            {0, 0, max, 5, -12}, {0, 0, max - 2, 5, -12}, {0, 0, min, 1, -12}, {0, 0, min, 5, -12}};
        for (int[] w : wrong) {
            Due.is("26: eaters " + w[0] + " " + w[1] + " " + w[2] + " " + w[3],
                x.eaters(w[0], w[1], w[2], w[3]), w[4]);
        }
        Seen.same("26: eaters", before, x);
    }

    private static void taken() {
        // By kind: the kinds for which it can be taken.
        boolean[][] is = {
            {true, false, false, false, false, false},
            {true, true, false, false, false, false},
            {true, false, true, false, false, false},
            {true, true, false, true, false, false},
            {true, false, true, false, true, false},
            {true, false, false, false, false, true}};
        for (int kind = 0; kind < 6; kind++) {
            FirstOne x = new FirstOne();
            x.eater(0, 0, 1);
            x.eater(kind, 712, 3);
            for (int k = 0; k < 6; k++) {
                Due.is("27: one of kind " + kind + " for one of kind " + k, x.taken(1, k), is[kind][k] ? 7 : -13);
            }
        }
    }

    private static void takenRefuses() {
        FirstOne x = new FirstOne();
        Due.is("27: nobody", x.taken(0, 0), -11);
        x.eater(0, 500, 1);
        String before = Seen.of(x);
        int[][] wrong = {{0, -1, -2}, {0, 6, -2}, {9, 6, -2}, {1, 0, -11}, {-1, 0, -11}, {5, 5, -11}, {0, 1, -13},
            {0, Integer.MAX_VALUE, -2}, {0, Integer.MIN_VALUE, -2}, {Integer.MAX_VALUE, 0, -11},
            {Integer.MIN_VALUE, 5, -11}};
        for (int[] w : wrong) {
            Due.is("27: taken " + w[0] + " " + w[1], x.taken(w[0], w[1]), w[2]);
        }
        Seen.same("27: taken", before, x);
    }
}
