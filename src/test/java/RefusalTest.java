/**
 * Refusals, by the promises' numbers: what is answered at the last value that is refused at either end, which one is
 * told when two words name one, and that all is as it was ahead of the call.
 */
public final class RefusalTest {
    private static final int BAD = FirstOne.BAD, STATE = FirstOne.STATE, FULL = FirstOne.FULL;
    private static final int NOTHING = -11, OUTSIDE = -12, UNLIKE = -13, BELOW = -14, NONE_SUCH = -100000;
    private static final int MAX = Integer.MAX_VALUE, MIN = Integer.MIN_VALUE;
    /** Objects to ask: a new one; one with three eaters; one in which all is full. */
    private static final int NEW = 0, SOME = 1, ALL = 2;

    private static final String[][] BEFORE = new String[3][Whole.PARTS];

    private interface Call {
        long of(FirstOne x);
    }

    public static void main(String[] args) {
        set();
        eater();
        told();
        ready();
        feed();
        text();
        force();
        supper();
        heap();
        best();
        keep();
        plates();
        eaten();
        film();
        drawnAndChance();
        back();
        count();
        sheet();
        cell();
        copy();
        eaters();
        taken();
        Due.close("RefusalTest");
    }

    // ---- the objects

    private static FirstOne made(int which) {
        FirstOne x = new FirstOne();
        if (which == SOME) {
            some(x);
        } else if (which == ALL) {
            all(x);
        }
        return x;
    }

    private static void some(FirstOne x) {
        Due.read(x, "takes 3+cake;hunger 2+eater;worth 20-late;");
        x.eater(3, 302, 5);
        x.eater(4, 911, 20);
        x.set(0, 0, 7);
        x.set(1, 0, 2);
        x.force(1);
        x.image();
        x.eater(5, 104, 3);
        x.set(0, 0, 9);
        x.set(1, 0, 1);
        x.set(3, 0, 6);
        Kitchen.row(x, 0, 0, 2, 1, 0);
        x.sheet(1, 1, 40);
        for (int i = 0; i < 40; i++) {
            x.cell(1, i, i % 4);
        }
        x.sheet(2, 2, 0);
        for (char c : "takes 4+".toCharArray()) {
            x.feed(c);
        }
    }

    private static void all(FirstOne x) {
        for (int t = 1; t <= 5; t++) {
            Due.read(x, "takes " + (t + 3) + ";hunger " + t + ";worth " + t + ";");
        }
        for (int e = 0; e < 5; e++) {
            x.eater(e + 1, 100 * e + e + 2, e + 4);
        }
        x.set(0, 0, 12);
        x.set(1, 0, 2);
        x.force(5);
        x.image();
        x.force(4);
        Kitchen.row(x, 0, 2, 3, 3, 2, 2, 2);
        x.sheet(1, 0, 40);
        x.cell(1, 0, 4);
        x.cell(1, 39, 3);
        x.sheet(3, 1, 0);
        for (int i = 0; i < 160; i++) {
            x.feed('x');
        }
    }

    private static void refused(int which, String words, long due, Call call) {
        for (int part = 0; part < Whole.PARTS; part++) {
            if (BEFORE[which][part] == null) {
                BEFORE[which][part] = Whole.part(made(which), part);
            }
            FirstOne x = made(which);
            Due.is(words, call.of(x), due);
            String now = Whole.part(x, part);
            Due.holds(words + ", part " + part + " was " + BEFORE[which][part] + " and became " + now,
                BEFORE[which][part].equals(now));
        }
    }

    private static void always(String words, long due, Call call) {
        refused(NEW, words, due, call);
        refused(SOME, words, due, call);
        refused(ALL, words, due, call);
    }

    // ---- cakes, eaters

    private static void set() {
        for (int what : new int[] {MIN, -1, 5, MAX}) {
            always("2: what " + what, BAD, x -> x.set(what, 0, 1));
        }
        for (int v : new int[] {MIN, -1, 13, MAX}) {
            always("2: BATTER " + v, BAD, x -> x.set(0, 0, v));
            always("2: WANT " + v, BAD, x -> x.set(3, 0, v));
        }
        for (int v : new int[] {MIN, -1, 0, 3, MAX}) {
            always("2: PANS " + v, BAD, x -> x.set(1, 0, v));
        }
        for (int v : new int[] {MIN, -1, 10, MAX}) {
            always("2: NUMBER " + v, BAD, x -> x.set(2, 0, v));
        }
        for (int v : new int[] {MIN, -1, 0, 21, MAX}) {
            always("2: PACE " + v, BAD, x -> x.set(4, 0, v));
        }
        for (int what = 2; what <= 4; what++) {
            int row = what;
            refused(NEW, "2: nobody there", BAD, x -> x.set(row, 0, 1));
            refused(SOME, "2: a fourth of three", BAD, x -> x.set(row, 3, 1));
            refused(ALL, "2: a sixth of five", BAD, x -> x.set(row, 5, 1));
            for (int of : new int[] {MIN, -1, 5, MAX}) {
                always("2: EATER " + of, BAD, x -> x.set(row, of, 1));
            }
        }
    }

    private static void eater() {
        for (int kind : new int[] {MIN, -1, 6, MAX}) {
            always("3: KIND " + kind, BAD, x -> x.eater(kind, 101, 1));
        }
        for (int what : new int[] {MIN, -100, -99, -1, 13, 99, 113, 913, 999, 1000, 1001, MAX}) {
            always("3: what " + what, BAD, x -> x.eater(0, what, 1));
        }
        for (int pace : new int[] {MIN, -1, 0, 21, MAX}) {
            always("3: PACE " + pace, BAD, x -> x.eater(0, 101, pace));
        }
        refused(ALL, "3: a sixth", FULL, x -> x.eater(0, 0, 1));
        refused(ALL, "3: a sixth", FULL, x -> x.eater(5, 912, 20));
    }

    private static void told() {
        refused(NEW, "4: nobody there", BAD, x -> x.told(0, 0));
        refused(SOME, "4: a fourth of three", BAD, x -> x.told(3, 0));
        for (int e : new int[] {MIN, -1, 5, MAX}) {
            always("4: EATER " + e, BAD, x -> x.told(e, 0));
        }
        for (int what : new int[] {MIN, -1, 6, MAX}) {
            always("4: what " + what, BAD, x -> x.told(0, what));
        }
    }

    private static void ready() {
        for (int cake : new int[] {MIN, -1, 12, MAX}) {
            always("5: CAKE " + cake, BAD, x -> x.ready(cake));
        }
        refused(NEW, "5: a ninth of eight", BAD, x -> x.ready(8));
        refused(SOME, "5: a tenth of nine", BAD, x -> x.ready(9));
    }

    // ---- texts

    private static void feed() {
        for (int letter : new int[] {MIN, -1, 256, MAX}) {
            always("6: no byte, ahead of FULL", BAD, x -> x.feed(letter));
        }
        for (int letter : new int[] {0, 32, 255}) {
            refused(ALL, "6: a 161st", FULL, x -> x.feed(letter));
        }
    }

    private static void text() {
        refused(ALL, "7: no TEXT more has room", FULL, x -> x.text());
        refused(ALL, "7: again", FULL, x -> x.text() + x.text() - FULL);
    }

    private static void force() {
        for (int text : new int[] {MIN, -1, 6, MAX}) {
            always("8: TEXT " + text, BAD, x -> x.force(text));
        }
        refused(NEW, "8: a second of one", BAD, x -> x.force(1));
        refused(SOME, "8: a third of two", BAD, x -> x.force(2));
    }

    // ---- suppers, and what would be best

    private static void supper() {
        for (int way : new int[] {MIN, -1, 4, MAX}) {
            always("9: way " + way, NONE_SUCH, x -> x.supper(way, 0, 0));
        }
        for (int sheet : new int[] {MIN, -1, 4, MAX}) {
            always("9: SHEET " + sheet, NONE_SUCH, x -> x.supper(0, sheet, 0));
        }
        refused(NEW, "9: a missing SHEET", NONE_SUCH, x -> x.supper(0, 0, 0));
        refused(SOME, "9: a missing SHEET", NONE_SUCH, x -> x.supper(0, 3, 2));
        refused(ALL, "9: a missing SHEET", NONE_SUCH, x -> x.supper(0, 2, 3));
        for (int what : new int[] {MIN, -30, -10, -1, 4, 9, 15, 19, 25, 29, 35, 39, 40, 41, 100, MAX}) {
            always("9: what " + what, NONE_SUCH, x -> x.supper(1, 0, what));
        }
        for (int what = 10; what <= 30; what += 10) {
            int row = what;
            refused(NEW, "9: nobody there", NONE_SUCH, x -> x.supper(2, 0, row));
            refused(SOME, "9: a fourth of three", NONE_SUCH, x -> x.supper(3, 0, row + 3));
            refused(SOME, "9: a fourth of three", NONE_SUCH, x -> x.supper(0, 0, row + 3));
        }
    }

    private static void heap() {
        for (int c : new int[] {MIN, -1, 0, 13, MAX}) {
            always("10: c " + c, NONE_SUCH, x -> x.heap(c, 0));
        }
        for (int what : new int[] {MIN, -30, -10, -1, 4, 9, 15, 19, 25, 29, 35, 39, 40, 41, 100, MAX}) {
            always("10: what " + what, NONE_SUCH, x -> x.heap(1, what));
        }
        for (int what = 10; what <= 30; what += 10) {
            int row = what;
            refused(NEW, "10: nobody there", NONE_SUCH, x -> x.heap(12, row));
            refused(SOME, "10: a fourth of three", NONE_SUCH, x -> x.heap(2, row + 3));
        }
    }

    private static void best() {
        for (int n = 0; n <= 4; n++) {
            int many = n;
            refused(NEW, "11: there are no EATERS", NONE_SUCH, x -> x.best(many, -1));
            refused(SOME, "11: CAKE n", NONE_SUCH, x -> x.best(many, many));
            refused(SOME, "11: below NONE", NONE_SUCH, x -> x.best(many, -2));
        }
        for (int n : new int[] {MIN, -1, 5, 12, MAX}) {
            always("11: n " + n, NONE_SUCH, x -> x.best(n, -1));
        }
        for (int what : new int[] {MIN, -2, 1, MAX}) {
            always("11: what " + what, NONE_SUCH, x -> x.best(1, what));
        }
    }

    private static void keep() {
        for (int what : new int[] {MIN, -1, 2, MAX}) {
            always("12: what " + what, NONE_SUCH, x -> x.keep(what));
        }
    }

    // ---- plates at the end

    private static void plates() {
        for (int sheet : new int[] {MIN, -1, 4, MAX}) {
            always("15: SHEET " + sheet, FirstOne.NO, x -> x.plates(sheet, 0));
        }
        for (int what : new int[] {MIN, -1, 2, MAX}) {
            always("15: what " + what, FirstOne.NO, x -> x.plates(0, what));
        }
        for (int what = 0; what <= 1; what++) {
            int w = what;
            refused(NEW, "15: missing", FirstOne.NO, x -> x.plates(0, w));
            refused(SOME, "15: missing", FirstOne.NO, x -> x.plates(3, w));
            refused(SOME, "15: of 40", FirstOne.NO, x -> x.plates(1, w));
            refused(SOME, "15: of none", FirstOne.NO, x -> x.plates(2, w));
        }
    }

    private static void eaten() {
        for (int sheet : new int[] {MIN, -1, 4, MAX}) {
            always("16: SHEET " + sheet, BAD, x -> x.eaten(sheet, -1));
        }
        for (int e : new int[] {MIN, -2, 5, MAX}) {
            always("16: EATER " + e, BAD, x -> x.eaten(0, e));
            refused(SOME, "16: EATER ahead of a missing SHEET", BAD, x -> x.eaten(3, e));
        }
        refused(NEW, "16: nobody there, ahead of a missing SHEET", BAD, x -> x.eaten(0, 0));
        refused(SOME, "16: a fourth of three", BAD, x -> x.eaten(0, 3));
        refused(NEW, "16: missing", NOTHING, x -> x.eaten(3, -1));
        refused(SOME, "16: missing", NOTHING, x -> x.eaten(3, 2));
        refused(ALL, "16: missing", NOTHING, x -> x.eaten(2, 4));
        refused(SOME, "16: of 40", BAD, x -> x.eaten(1, 0));
        refused(SOME, "16: of none", BAD, x -> x.eaten(2, -1));
    }

    private static void film() {
        for (int sheet : new int[] {MIN, -1, 4, MAX}) {
            always("17: SHEET " + sheet, BAD, x -> x.film(sheet, 1));
        }
        for (int way : new int[] {MIN, -1, 0, 4, MAX}) {
            always("17: way " + way, BAD, x -> x.film(0, way));
            always("17: way " + way + ", a missing SHEET", BAD, x -> x.film(3, way));
        }
    }

    private static void drawnAndChance() {
        for (int seed : new int[] {MIN, -1, 0, MAX}) {
            refused(NEW, "18: there are no EATERS", FirstOne.NO, x -> x.drawn(seed));
            refused(NEW, "19: there are no EATERS", FirstOne.NO, x -> x.chance(seed, 1, 0));
        }
        for (int n : new int[] {MIN, -1, 0, 21, MAX}) {
            always("19: n " + n, FirstOne.NO, x -> x.chance(0, n, 0));
        }
        for (int part : new int[] {MIN, -1, 2, MAX}) {
            always("19: part " + part, FirstOne.NO, x -> x.chance(0, 1, part));
        }
    }

    private static void back() {
        refused(NEW, "21: there is none", STATE, x -> x.back());
    }

    private static void count() {
        for (int what : new int[] {MIN, -1, 8, MAX}) {
            always("22: what " + what, BAD, x -> x.count(what));
        }
    }

    // ---- the host

    private static void sheet() {
        for (int sheet : new int[] {MIN, -1, 4, MAX}) {
            always("23: SHEET " + sheet, BAD, x -> x.sheet(sheet, 0, 1));
            always("23: SHEET " + sheet + " missing", BAD, x -> x.sheet(sheet, -1, 1));
            always("23: SHEET " + sheet + ", ahead of a size below 0", BAD, x -> x.sheet(sheet, 0, -1));
        }
        for (int sort : new int[] {MIN, -2, 3, MAX}) {
            always("23: sort " + sort, BAD, x -> x.sheet(1, sort, 1));
            always("23: sort " + sort + ", ahead of a size below 0", BAD, x -> x.sheet(1, sort, -1));
        }
        for (int sort = 0; sort <= 2; sort++) {
            int s = sort;
            always("23: n 41", BAD, x -> x.sheet(0, s, 41));
            always("23: n MAX", BAD, x -> x.sheet(0, s, MAX));
            always("23: n -1", BELOW, x -> x.sheet(0, s, -1));
            always("23: n MIN", BELOW, x -> x.sheet(0, s, MIN));
        }
    }

    private static void cell() {
        for (int sheet : new int[] {MIN, -1, 4, MAX}) {
            always("24: SHEET " + sheet, BAD, x -> x.cell(sheet, 0, 1));
            always("24: SHEET " + sheet + ", ahead of a place outside", BAD, x -> x.cell(sheet, 40, 1));
        }
        for (int i : new int[] {MIN, -1, 0, 40, MAX}) {
            refused(NEW, "24: missing, item " + i, NOTHING, x -> x.cell(0, i, 1));
            refused(SOME, "24: missing, item " + i, NOTHING, x -> x.cell(3, i, 1));
            refused(SOME, "24: of none, item " + i, OUTSIDE, x -> x.cell(2, i, 1));
        }
        for (int i : new int[] {MIN, -1, 3, MAX}) {
            refused(SOME, "24: of three, item " + i, OUTSIDE, x -> x.cell(0, i, 1));
        }
        for (int i : new int[] {MIN, -1, 40, MAX}) {
            refused(SOME, "24: of 40, item " + i, OUTSIDE, x -> x.cell(1, i, 1));
            refused(ALL, "24: of 40, item " + i, OUTSIDE, x -> x.cell(1, i, 1));
        }
    }

    private static void copy() {
        for (int sheet : new int[] {MIN, -1, 4, MAX}) {
            always("25: SHEET " + sheet, BAD, x -> x.copy(sheet, 0, 0, 0, 1));
            always("25: another, " + sheet, BAD, x -> x.copy(0, 0, sheet, 0, 1));
            always("25: SHEET " + sheet + ", ahead of a missing one", BAD, x -> x.copy(sheet, -1, 3, 0, 1));
            always("25: another, " + sheet + ", ahead of a missing one", BAD, x -> x.copy(3, -1, sheet, 0, -1));
        }
        refused(NEW, "25: both missing", NOTHING, x -> x.copy(0, 0, 1, 0, 1));
        refused(SOME, "25: missing", NOTHING, x -> x.copy(3, 0, 0, 0, 1));
        refused(SOME, "25: another one missing", NOTHING, x -> x.copy(0, 0, 3, 0, 1));
        refused(SOME, "25: missing, itself, none", NOTHING, x -> x.copy(3, 0, 3, 0, 0));
        refused(SOME, "25: missing, ahead of a place outside", NOTHING, x -> x.copy(0, -1, 3, -1, -1));
        refused(SOME, "25: bytes, shorts", UNLIKE, x -> x.copy(0, 0, 1, 0, 1));
        refused(SOME, "25: shorts, bytes", UNLIKE, x -> x.copy(1, 0, 0, 0, 1));
        refused(SOME, "25: shorts, ints", UNLIKE, x -> x.copy(1, 0, 2, 0, 0));
        refused(SOME, "25: ints, bytes", UNLIKE, x -> x.copy(2, 0, 0, 0, 0));
        refused(SOME, "25: of unlike sorts, ahead of a place outside", UNLIKE, x -> x.copy(0, -1, 1, 41, -1));
        int[][] outside = {{-1, 0, 1}, {0, -1, 1}, {0, 0, -1}, {40, 0, 1}, {0, 40, 1}, {41, 0, 0}, {0, 41, 0},
            {0, 0, 41}, {1, 0, 40}, {0, 1, 40}, {39, 0, 2}, {0, 39, 2}, {-1, 0, 0}, {0, -1, 0}, {MAX, 0, 1},
            {0, MAX, 1}, {0, 0, MAX}, {MIN, 0, 1}, {0, MIN, 1}, {0, 0, MIN}, {1, 1, MAX}, {MAX, MAX, MAX},
            {MIN, MIN, MIN}, {MAX, 0, MIN}, {MIN, 0, MAX}, {2, 0, MAX - 1}};
        for (int[] w : outside) {
            String words = "25: outside, " + w[0] + " " + w[1] + " " + w[2];
            refused(SOME, words, OUTSIDE, x -> x.copy(1, w[0], 1, w[1], w[2]));
        }
        refused(SOME, "25: of none", OUTSIDE, x -> x.copy(2, 0, 2, 0, 1));
        refused(ALL, "25: of none", OUTSIDE, x -> x.copy(3, 0, 3, 0, 1));
    }

    private static void eaters() {
        for (int sheet : new int[] {MIN, -1, 4, MAX}) {
            always("26: SHEET " + sheet, BAD, x -> x.eaters(sheet, 0, 0, 1));
        }
        for (int sort : new int[] {MIN, -1, 3, MAX}) {
            always("26: sort " + sort, BAD, x -> x.eaters(0, sort, 0, 1));
            refused(SOME, "26: sort " + sort + ", ahead of a missing SHEET", BAD, x -> x.eaters(3, sort, 0, 1));
        }
        for (int n : new int[] {MIN, -1, 6, MAX}) {
            always("26: n " + n, BAD, x -> x.eaters(0, 0, 0, n));
            refused(SOME, "26: n " + n + ", ahead of another sort", BAD, x -> x.eaters(0, 1, 0, n));
            refused(SOME, "26: n " + n + ", ahead of a missing SHEET", BAD, x -> x.eaters(3, 0, 0, n));
        }
        for (int sort = 0; sort <= 2; sort++) {
            int s = sort;
            refused(NEW, "26: missing", NOTHING, x -> x.eaters(3, s, 0, 0));
            refused(SOME, "26: missing", NOTHING, x -> x.eaters(3, s, -1, 5));
        }
        refused(SOME, "26: bytes for shorts", UNLIKE, x -> x.eaters(0, 1, 0, 1));
        refused(SOME, "26: bytes for ints", UNLIKE, x -> x.eaters(0, 2, 0, 0));
        refused(SOME, "26: shorts for bytes, ahead of a place outside", UNLIKE, x -> x.eaters(1, 0, -1, 1));
        refused(SOME, "26: ints for shorts, ahead of a place outside", UNLIKE, x -> x.eaters(2, 1, 41, 5));
        for (int from : new int[] {MIN, -3, -1, 1, 2, 3, MAX - 1, MAX}) {
            refused(SOME, "26: of three, from " + from, OUTSIDE, x -> x.eaters(0, 0, from, 1));
            refused(SOME, "26: of none, from " + from, OUTSIDE, x -> x.eaters(2, 2, from, 5));
        }
        for (int from : new int[] {MIN, -1, 38, 40, MAX}) {
            refused(SOME, "26: of 40, from " + from, OUTSIDE, x -> x.eaters(1, 1, from, 1));
        }
        refused(SOME, "26: of none", OUTSIDE, x -> x.eaters(2, 2, 0, 1));
    }

    private static void taken() {
        for (int k : new int[] {MIN, -1, 6, MAX}) {
            always("27: KIND " + k, BAD, x -> x.taken(0, k));
            always("27: KIND " + k + ", ahead of no such EATER", BAD, x -> x.taken(-1, k));
        }
        for (int k = 0; k <= 5; k++) {
            int kind = k;
            refused(NEW, "27: nobody there", NOTHING, x -> x.taken(0, kind));
            refused(SOME, "27: a fourth of three", NOTHING, x -> x.taken(3, kind));
            for (int e : new int[] {MIN, -1, 5, MAX}) {
                always("27: EATER " + e, NOTHING, x -> x.taken(e, kind));
            }
        }
        refused(SOME, "27: a GREEDY one is no POLITE one", UNLIKE, x -> x.taken(0, 2));
        refused(SOME, "27: a SERVING one is no QUICK one", UNLIKE, x -> x.taken(1, 1));
        refused(SOME, "27: a SMALL one is no SERVING one", UNLIKE, x -> x.taken(2, 4));
    }
}
