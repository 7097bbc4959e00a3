/** Promises 9 and 10: supper and heap. */
public final class SupperTest {
    private static final int NONE_SUCH = -100000;

    public static void main(String[] args) {
        oneEater();
        turns();
        theHungriest();
        whoHasHadLeast();
        bySheet();
        fair();
        kindsWait();
        neverServed();
        nobody();
        supperRefuses();
        heap();
        heapOfTwoPans();
        heapRefuses();
        Due.close("SupperTest");
    }

    /** COST, FAIR, given, WASTED by a way. */
    private static void all(String what, FirstOne x, int way, int cost, int fair, int given, int wasted) {
        Due.is(what + ": COST", x.supper(way, 0, 0), cost);
        Due.is(what + ": FAIR", x.supper(way, 0, 1), fair);
        Due.is(what + ": given", x.supper(way, 0, 2), given);
        Due.is(what + ": WASTED", x.supper(way, 0, 3), wasted);
    }

    /** HAD, WAITS and the last one eaten, of one by a way. */
    private static void one(String what, FirstOne x, int way, int e, int had, int waits, int last) {
        Due.is(what + ": HAD of " + e, x.supper(way, 0, 10 + e), had);
        Due.is(what + ": WAITS of " + e, x.supper(way, 0, 20 + e), waits);
        Due.is(what + ": eaten of " + e, x.supper(way, 0, 30 + e), last);
    }

    private static void oneEater() {
        FirstOne x = new FirstOne();
        x.set(0, 0, 2);
        x.eater(0, 2, 3);
        // Waits 0 .. 3, eats 4 .. 6, waits 7, eats 8 .. 10, has had as many as wanted.
        all("9: one", x, 1, 5 - 20, 0, 2, 0);
        one("9: one", x, 1, 0, 2, 5, 11);
        x.set(4, 0, 4);
        // Has eaten the first one in the very minute of the second one.
        all("9: one, slower", x, 1, 4 - 20, 0, 2, 0);
        one("9: one, slower", x, 1, 0, 2, 4, 12);
        x.set(4, 0, 6);
        // The second one is begun in minute 10, late by 2.
        all("9: one, slow", x, 1, 4 - 18, 0, 2, 0);
        one("9: one, slow", x, 1, 0, 2, 4, 16);
        x.set(3, 0, 1);
        // Wants one: gets two by turns all the same.
        all("9: wants one", x, 1, 4 - 18, 0, 2, 0);
        x.set(3, 0, 0);
        all("9: wants none", x, 1, -18, 0, 2, 0);
        all("9: wants none, by hunger", x, 2, 0, 0, 0, 2);
        one("9: wants none, by hunger", x, 2, 0, 0, 0, -1);
        all("9: wants none, by least", x, 3, -18, 0, 2, 0);
        x.set(3, 0, 12);
        x.set(4, 0, 20);
        x.set(0, 0, 8);
        // Eats from minute 4 to far behind the last one; 8 cakes of 20 minutes, late by 0, 16, 32, ...
        all("9: so slow", x, 1, 4 - 10, 0, 8, 0);
        one("9: so slow", x, 1, 0, 8, 4, 164);
    }

    private static FirstOne two(int wantFirst, int wantSecond) {
        FirstOne x = new FirstOne();
        x.eater(0, wantFirst, 1);
        x.eater(0, wantSecond, 1);
        return x;
    }

    private static void turns() {
        FirstOne x = two(1, 1);
        x.set(0, 0, 3);
        // 0 waits 0 .. 3, 1 waits 0 .. 7.
        all("9: turns", x, 1, 12 - 30, 1, 3, 0);
        one("9: turns", x, 1, 0, 2, 4, 13);
        one("9: turns", x, 1, 1, 1, 8, 9);
    }

    private static void theHungriest() {
        FirstOne x = two(1, 1);
        x.set(0, 0, 3);
        all("9: hungriest", x, 2, 12 - 20, 1, 2, 1);
        one("9: hungriest", x, 2, 0, 1, 4, 5);
        one("9: hungriest", x, 2, 1, 1, 8, 9);
        x.force(Due.read(x, "takes 4;hunger eater+1;worth 0;"));
        one("9: the second is hungrier", x, 2, 0, 1, 8, 9);
        one("9: the second is hungrier", x, 2, 1, 1, 4, 5);
        // Hungrier by the cakes had: the first, once given one, stays the hungriest.
        x = two(9, 9);
        x.set(0, 0, 3);
        x.force(Due.read(x, "takes 4;hunger had;worth 0;"));
        one("9: hungrier by having had", x, 2, 0, 3, 4 + 3 + 3 + 47, 13);
        one("9: hungrier by having had", x, 2, 1, 0, 60, -1);
        // Who eats still is asked as if waiting.
        x = two(9, 9);
        x.set(4, 0, 20);
        x.set(0, 0, 2);
        x.force(Due.read(x, "takes 4;hunger 2-eater;worth 0;"));
        one("9: still eating, still the hungriest", x, 2, 0, 2, 4 + 16, 44);
        // In one minute the second cake is told by what the first one left.
        x = two(9, 9);
        x.set(1, 0, 2);
        x.set(0, 0, 2);
        x.force(Due.read(x, "takes 4;hunger 5-had;worth 0;"));
        one("9: two in a minute", x, 2, 0, 1, 4 + 55, 5);
        one("9: two in a minute", x, 2, 1, 1, 4 + 55, 5);
        // The minute itself tells.
        x = two(9, 9);
        x.set(0, 0, 2);
        x.force(Due.read(x, "takes 4;hunger (minute=8)*eater;worth 0;"));
        one("9: by the minute", x, 2, 0, 1, 59, 5);
        one("9: by the minute", x, 2, 1, 1, 59, 9);
        // HUNGERS, not what the text tells: SMALL ones are 5 at most.
        x = new FirstOne();
        x.eater(5, 9, 1);
        x.eater(0, 9, 1);
        x.set(0, 0, 1);
        x.force(Due.read(x, "takes 4;hunger 9-eater;worth 0;"));
        one("9: a small one", x, 2, 0, 0, 60, -1);
        one("9: a small one", x, 2, 1, 1, 59, 5);
    }

    private static void whoHasHadLeast() {
        FirstOne x = two(0, 0);
        x.set(0, 0, 4);
        x.set(1, 0, 2);
        x.force(Due.read(x, "takes 1+19*(cake=0);hunger 1;worth 0;"));
        // READY 20, 1, 21, 2.
        one("9: turns when later ones are ready first", x, 1, 0, 2, 0, 22);
        one("9: turns when later ones are ready first", x, 1, 1, 2, 0, 3);
        one("9: least when later ones are ready first", x, 3, 0, 2, 0, 21);
        one("9: least when later ones are ready first", x, 3, 1, 2, 0, 22);
    }

    private static void bySheet() {
        FirstOne x = two(1, 1);
        x.set(0, 0, 6);
        x.sheet(0, 2, 5);
        int[] who = {1, 2, -1, 1, Integer.MIN_VALUE};
        for (int k = 0; k < 5; k++) {
            x.cell(0, k, who[k]);
        }
        // Cakes 0 and 3 to eater 1, the others, cake 5 too, to nobody.
        all("9: a sheet", x, 0, 60 + 4 - 20, 2, 2, 4);
        one("9: a sheet", x, 0, 0, 0, 60, -1);
        one("9: a sheet", x, 0, 1, 2, 4, 17);
        x.sheet(0, 0, 12);
        all("9: a longer sheet", x, 0, 4 + 60 - 60, 6, 6, 0);
        x.sheet(0, 1, 0);
        all("9: an empty sheet", x, 0, 120, 0, 0, 6);
        x.sheet(0, 0, 1);
        x.cell(0, 0, 255);
        all("9: a byte below 0 is no eater", x, 0, 120, 0, 0, 6);
    }

    private static void fair() {
        FirstOne x = two(0, 0);
        x.set(1, 0, 2);
        x.set(0, 0, 2);
        Due.is("9: both in one minute", x.supper(1, 0, 1), 0);
        x.set(0, 0, 3);
        Due.is("9: one more", x.supper(1, 0, 1), 1);
        x.sheet(0, 0, 6);
        for (int k = 3; k < 6; k++) {
            x.cell(0, k, 1);
        }
        x.set(0, 0, 6);
        x.set(1, 0, 1);
        Due.is("9: three ahead, made up for later", x.supper(0, 0, 1), 3);
        Due.is("9: alike at last", x.supper(0, 0, 10) - x.supper(0, 0, 11), 0);
    }

    private static void kindWaits(int kind, int pace, int cost, int waits) {
        FirstOne x = new FirstOne();
        x.set(0, 0, 1);
        x.eater(kind, 205, pace);
        x.eater(0, 0, 1);
        x.force(Due.read(x, "takes 4;hunger 11;worth 0;"));
        Due.is("9: COST of kind " + kind, x.supper(1, 0, 0), cost);
        one("9: kind " + kind, x, 1, 0, 1, waits, 60 - waits + 4);
    }

    private static void kindsWait() {
        // Waits 0 .. 3 having had none, eats one, waits till 59 having had one more than the other.
        kindWaits(0, 4, 44 + 52 * 11, 56);
        kindWaits(1, 4, 4 * 13 + 54 * 13, 58);
        kindWaits(2, 4, 44, 56);
        kindWaits(3, 6, 4 * 26 + 54 * 13, 58);
        kindWaits(4, 2, 4 * 5, 56);
        kindWaits(5, 2, 4 * 5 + 52 * 5, 56);
        // Alone, a polite one is never above the least.
        FirstOne x = new FirstOne();
        x.set(0, 0, 1);
        x.eater(2, 5, 4);
        Due.is("9: a polite one alone", x.supper(1, 0, 0), 4 + 52 - 10);
    }

    private static void neverServed() {
        FirstOne x = two(0, 0);
        x.force(Due.read(x, "takes 10-(cake=5);hunger 1;worth 10;"));
        // READY 10, 20, 30, 40, 50, 59, 69, 79.
        Due.is("9: served", x.count(6), 6);
        all("9: some never served", x, 1, -60, 1, 6, 0);
        one("9: in minute 59", x, 1, 1, 3, 0, 60);
        x.force(Due.read(x, "takes 10;hunger 1;worth 10;"));
        Due.is("9: ready in minute 60", x.count(6), 5);
        all("9: not served in minute 60", x, 1, -50, 1, 5, 0);
        x.set(3, 0, 12);
        x.set(3, 1, 12);
        x.set(0, 0, 0);
        all("9: no cakes", x, 1, 120, 0, 0, 0);
        one("9: no cakes", x, 1, 1, 0, 60, -1);
    }

    private static void nobody() {
        FirstOne x = new FirstOne();
        x.sheet(0, 0, 3);
        for (int way = 0; way <= 3; way++) {
            all("9: nobody", x, way, 0, 0, 0, 8);
            Due.is("9: nobody there", x.supper(way, 0, 10), NONE_SUCH);
        }
    }

    private static void supperRefuses() {
        FirstOne x = two(1, 1);
        x.sheet(0, 0, 3);
        String before = Seen.of(x);
        int[][] wrong = {{-1, 0, 0}, {4, 0, 0}, {0, -1, 0}, {0, 4, 0}, {0, 1, 0}, {1, 0, -1}, {1, 0, 4}, {1, 0, 9},
            {1, 0, 12}, {1, 0, 15}, {1, 0, 19}, {1, 0, 22}, {1, 0, 29}, {1, 0, 32}, {1, 0, 40}, {1, 0, 41},
            {1, 0, 100}, {1, 0, -10}, {Integer.MAX_VALUE, 0, 0}, {Integer.MIN_VALUE, 0, 0},
            {0, Integer.MAX_VALUE, 0}, {0, Integer.MIN_VALUE, 0}, {1, 0, Integer.MAX_VALUE},
            {1, 0, Integer.MIN_VALUE}};
        for (int[] w : wrong) {
            Due.is("9: supper " + w[0] + " " + w[1] + " " + w[2], x.supper(w[0], w[1], w[2]), NONE_SUCH);
        }
        Seen.same("9: supper", before, x);
        Due.is("9: else a sheet does not matter", x.supper(1, Integer.MIN_VALUE, 2), 8);
        Due.is("9: the last one", x.supper(3, 99, 31), x.supper(3, 0, 31));
    }

    private static void heap() {
        FirstOne x = two(1, 1);
        x.set(0, 0, 5);
        // READY 4, 8, 12, 16, 20; rows of 2: served 8, 8, 16, 16, 20; worth 6, 10, 6, 10, 10.
        Due.is("10: COST", x.heap(2, 0), 16 - 42);
        Due.is("10: FAIR", x.heap(2, 1), 1);
        Due.is("10: given", x.heap(2, 2), 5);
        Due.is("10: WASTED", x.heap(2, 3), 0);
        Due.is("10: HAD", x.heap(2, 10), 3);
        Due.is("10: HAD", x.heap(2, 11), 2);
        Due.is("10: WAITS", x.heap(2, 20), 8);
        Due.is("10: last", x.heap(2, 30), 21);
        Due.is("10: last", x.heap(2, 31), 17);
        // Rows of 3: served 12, 12, 12, 20, 20: eater 0 begins cakes at 12, 13 (late by 1), 20.
        Due.is("10: rows of 3", x.heap(3, 0), 24 - (2 + 6 + 9 + 6 + 10));
        Due.is("10: rows of 3", x.heap(3, 20), 12);
        Due.is("10: one by one is way 1", x.heap(1, 0), x.supper(1, 0, 0));
        // All in minute 20: begun at 20, 21, 22 and 20, 21.
        Due.is("10: all at once", x.heap(12, 0), 40 - (0 + 0 + 1 + 5 + 8));
        Due.is("10: all at once", x.heap(5, 0), x.heap(12, 0));
        x.set(0, 0, 12);
        x.force(Due.read(x, "takes 5;hunger 1;worth 10;"));
        // READY 5, 10, .., 60: by rows of 12 none is ever served, by rows of 11 the first eleven are.
        Due.is("10: never", x.heap(12, 2), 0);
        Due.is("10: nor wasted", x.heap(12, 3), 0);
        Due.is("10: in minute 55", x.heap(11, 2), 11);
        Due.is("10: the row of the last two", x.heap(10, 2), 10);
        Due.is("10: the last row", x.heap(4, 2), 8);
    }

    private static void heapOfTwoPans() {
        FirstOne x = two(0, 0);
        x.set(0, 0, 4);
        x.set(1, 0, 2);
        x.force(Due.read(x, "takes 1+19*(cake=0);hunger 1;worth late;"));
        // READY 20, 1, 21, 2: the latest of a row is not its last one.
        Due.is("10: two pans, rows of 2", x.heap(2, 30), 22);
        Due.is("10: two pans, rows of 2", x.heap(2, 31), 22);
        Due.is("10: two pans, rows of 2, late", x.heap(2, 0), -(19 + 19));
        Due.is("10: two pans, rows of 3", x.heap(3, 31), 22);
        Due.is("10: two pans, rows of 3, late", x.heap(3, 0), -(1 + 20 + 1));
    }

    private static void heapRefuses() {
        FirstOne x = two(1, 1);
        String before = Seen.of(x);
        int[][] wrong = {{0, 0}, {-1, 0}, {13, 0}, {1, -1}, {1, 4}, {1, 9}, {1, 12}, {1, 22}, {1, 32}, {1, 40},
            {Integer.MAX_VALUE, 0}, {Integer.MIN_VALUE, 0}, {1, Integer.MAX_VALUE}, {1, Integer.MIN_VALUE}};
        for (int[] w : wrong) {
            Due.is("10: heap " + w[0] + " " + w[1], x.heap(w[0], w[1]), NONE_SUCH);
        }
        Seen.same("10: heap", before, x);
    }
}
