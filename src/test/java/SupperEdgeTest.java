/**
 * The document's "==== 2", sentence by sentence: MINUTE 59 and 60, nobody and everybody, no cakes, the first and the
 * last c, n and bit, seeds that wrap around.
 */
public final class SupperEdgeTest {
    private static final int MAX = Integer.MAX_VALUE, MIN = Integer.MIN_VALUE;
    private static final int NONE = FirstOne.NONE, NONE_SUCH = -100000;

    public static void main(String[] args) {
        ready();
        served();
        servedByHeap();
        givenAhead();
        waits();
        hungerByAllItsNames();
        nothingToDo();
        cost();
        fair();
        tellsWhom();
        turns();
        hungriest();
        least();
        heapRows();
        best();
        bestOfAll();
        keep();
        second();
        leave();
        plates();
        orders();
        eaten();
        paces();
        drawn();
        inSeeds();
        image();
        count();
        Due.close("SupperEdgeTest");
    }

    private static void come(FirstOne x, int many, int want) {
        for (int e = 0; e < many; e++) {
            x.eater(0, want, 1);
        }
    }

    // ---- READY and SERVED

    private static void ready() {
        FirstOne x = Kitchen.by("20", "0", "0");
        x.set(0, 0, 12);
        for (int k = 0; k < 12; k++) {
            x.set(1, 0, 1);
            Due.is("READY: all of lesser numbers and itself", x.ready(k), 20 * (k + 1));
            x.set(1, 0, 2);
            Due.is("READY: with 2 PANS every other one", x.ready(k), 20 * (k / 2 + 1));
        }
        x = Kitchen.by("1+cake", "0", "0");
        x.set(0, 0, 12);
        x.set(1, 0, 2);
        Due.is("READY: 1, 3, 5, 7, 9, 11", x.ready(10), 36);
        Due.is("READY: 2, 4, 6, 8, 10, 12", x.ready(11), 42);
        Due.is("READY: the first of one PAN", x.ready(0), 1);
        Due.is("READY: the first of the other", x.ready(1), 2);
    }

    /** Three cakes, the third READY in MINUTE 59 or in 60: by each way. */
    private static void served() {
        int[][] ends = {{59, 3}, {60, 2}};
        for (int[] end : ends) {
            FirstOne x = Kitchen.by(end[0] == 59 ? "20-(cake=0)" : "20", "1", "1");
            x.set(0, 0, 3);
            come(x, 1, 12);
            Kitchen.row(x, 0, 0, 0, 0, 0);
            String what = "SERVED: READY " + end[0];
            Due.is(what, x.ready(2), end[0]);
            Due.is(what + ", count", x.count(6), end[1]);
            for (int way = 0; way <= 3; way++) {
                Due.is(what + ", given by way " + way, x.supper(way, 0, 2), end[1]);
                Due.is(what + ", WASTED by way " + way, x.supper(way, 0, 3), 0);
                Due.is(what + ", HAD by way " + way, x.supper(way, 0, 10), end[1]);
            }
            Due.is(what + ", eaten", x.supper(1, 0, 30), end[1] == 3 ? 60 : 41);
            Due.is(what + ", COST of the best", x.best(3, NONE), x.supper(1, 0, 0));
            Due.is(what + ", drawn", x.drawn(1), x.supper(1, 0, 0));
            Kitchen.row(x, 1, 0, end[1]);
            Due.is(what + ", ORDERS", x.plates(1, 1), 1);
            Kitchen.row(x, 1, 0, 5 - end[1]);
            Due.is(what + ", ORDERS of one more or less", x.plates(1, 1), 0);
        }
        FirstOne x = Kitchen.by("20", "0", "0");
        x.set(0, 0, 12);
        Due.is("SERVED: nobody there, wasted", x.supper(1, 0, 3), 2);
        Due.is("SERVED: all behind 59 never", x.count(6), 2);
    }

    private static void servedByHeap() {
        FirstOne x = Kitchen.by("20-(cake=0)", "0", "0");
        x.set(0, 0, 4);
        come(x, 1, 12);
        // READY 19, 39, 59, 79.
        Due.is("HEAP: the row's latest in 59", x.heap(3, 2), 3);
        Due.is("HEAP: the row's latest in 79", x.heap(2, 2), 2);
        Due.is("HEAP: all in 79", x.heap(4, 2), 0);
        Due.is("HEAP: all in 79", x.heap(12, 3), 0);
        Due.is("HEAP: the last one in 79", x.heap(1, 2), 3);
        x.set(0, 0, 3);
        Due.is("HEAP: all in 59", x.heap(12, 2), 3);
        x.force(Due.read(x, "takes 20;hunger 0;worth 0;"));
        Due.is("HEAP: all in 60", x.heap(12, 2), 0);
        Due.is("HEAP: all in 60", x.heap(3, 2), 0);
        Due.is("HEAP: two in 40", x.heap(2, 2), 2);
    }

    // ---- a SUPPER

    /** Two cakes, READY 4 and 8: one given in the very MINUTE in which the other is eaten, or earlier, or later. */
    private static void givenAhead() {
        int[][] paces = {{1, 8, 0, 9}, {3, 8, 0, 11}, {4, 8, 0, 12}, {5, 9, 1, 14}, {20, 24, 16, 44}};
        for (int[] p : paces) {
            FirstOne x = Kitchen.by("4", "0", "(cake=1)*minute");
            x.set(0, 0, 2);
            x.eater(0, 0, p[0]);
            String what = "begins it, PACE " + p[0];
            Due.is(what, x.supper(1, 0, 0), -p[1]);
            Due.is(what + ", eaten", x.supper(1, 0, 30), p[3]);
            x.force(Due.read(x, "takes 4;hunger 0;worth (cake=1)*late;"));
            Due.is(what + ", late", x.supper(1, 0, 0), -p[2]);
        }
        // Two in one MINUTE, by numbers: the second is begun when the first is eaten, having had 1.
        FirstOne x = Kitchen.by("4", "0", "cake*40+had*20+minute");
        x.set(0, 0, 2);
        x.set(1, 0, 2);
        x.eater(0, 0, 3);
        Due.is("begins it: two in one MINUTE", x.supper(1, 0, 0), -(4 + 40 + 20 + 7));
        Due.is("begins it: two in one MINUTE, eaten", x.supper(1, 0, 30), 10);
    }

    private static void waits() {
        FirstOne x = Kitchen.by("4", "1", "0");
        x.set(0, 0, 1);
        x.eater(0, 0, 1);
        Due.is("WAITS: wants none", x.supper(1, 0, 20), 0);
        x.set(3, 0, 1);
        // Given one in 4: waits in 0 .. 3, has had as many as wanted from then on.
        Due.is("WAITS: has had as many as wanted", x.supper(1, 0, 20), 4);
        x.set(3, 0, 2);
        Due.is("WAITS: one fewer, eaten in 5", x.supper(1, 0, 20), 4 + 55);
        x.set(4, 0, 2);
        Due.is("WAITS: one fewer, eaten in 6", x.supper(1, 0, 20), 4 + 54);
        x.set(3, 0, 12);
        Due.is("WAITS: wants twelve", x.supper(1, 0, 20), 4 + 54);
        // Eaten in MINUTE 59, in 60.
        x = Kitchen.by("20", "1", "0");
        x.set(0, 0, 2);
        x.eater(0, 12, 19);
        Due.is("WAITS: eaten in 59", x.supper(1, 0, 20), 20 + 1 + 1);
        x.set(4, 0, 20);
        Due.is("WAITS: eaten in 60", x.supper(1, 0, 20), 20);
        x.set(0, 0, 0);
        Due.is("WAITS: no cakes, all MINUTES", x.supper(1, 0, 20), 60);
    }

    /** Twelve cakes as a sheet tells, one each four MINUTES; who eats one MINUTE waits in all the others. */
    private static int hungerOf(int[] who, int e, int minuteTimes, int hadTimes, int eaterTimes) {
        int sum = 0;
        int had = 0;
        for (int minute = 0; minute < 60; minute++) {
            boolean gets = minute % 4 == 0 && minute >= 4 && minute <= 48 && who[minute / 4 - 1] == e;
            had += gets ? 1 : 0;
            sum += gets || had == 12 ? 0 : minute * minuteTimes + had * hadTimes + e * eaterTimes;
        }
        return sum;
    }

    private static void hungerByAllItsNames() {
        int[][] plans = {{0, 0, 0, 0, 0, 0, 0, 0, 0, 0, 0, 0}, {0, 0, 0, 0, 0, 0, 0, 0, 0, 0, 0, 1},
            {1, 0, 1, 1, 1, 1, 1, 1, 1, 1, 1, 1}, {0, 1, 2, 3, 4, 0, 1, 2, 3, 4, 0, 1},
            {4, 4, 4, 4, 4, 3, 3, 3, 3, 2, 2, 0}, {2, 2, 2, 2, 2, 2, 2, 2, 2, 2, 2, 1}};
        int[][] times = {{1, 0, 0}, {0, 8, 0}, {0, 0, 9}, {1, 2, 3}, {1, -3, 9}};
        for (int[] t : times) {
            String hunger = "minute*" + t[0] + "+had*" + t[1] + "+eater*" + t[2] + "+want-12+cake+late";
            FirstOne x = Kitchen.by("4", hunger, "0");
            x.set(0, 0, 12);
            come(x, 5, 12);
            for (int[] who : plans) {
                Kitchen.row(x, 0, 0, who);
                int due = 0;
                for (int e = 0; e < 5; e++) {
                    due += hungerOf(who, e, t[0], t[1], t[2]);
                }
                Due.is("hunger by minute, had, eater", x.supper(0, 0, 0), due);
            }
        }
    }

    /** Nobody at the table, or no cakes, or neither. */
    private static void nothingToDo() {
        FirstOne x = new FirstOne();
        for (int sort = 0; sort <= 2; sort++) {
            Kitchen.row(x, 0, sort, 0, 0, 0, 0, 0, 0, 0, 0, 0, 0, 0, 0);
            for (int way = 0; way <= 3; way++) {
                x.set(0, 0, 12);
                Due.is("nobody: COST", x.supper(way, 0, 0), 0);
                Due.is("nobody: FAIR", x.supper(way, 0, 1), 0);
                Due.is("nobody: given", x.supper(way, 0, 2), 0);
                Due.is("nobody: WASTED", x.supper(way, 0, 3), 12);
                x.set(0, 0, 0);
                Due.is("nobody, no cakes: WASTED", x.supper(way, 0, 3), 0);
            }
        }
        x.set(0, 0, 12);
        Due.is("nobody: HEAP, COST", x.heap(12, 0), 0);
        Due.is("nobody: HEAP, WASTED", x.heap(12, 3), 12);
        Due.is("nobody: KEEP", x.keep(0), 1);
        Due.is("nobody: KEEP, COST", x.keep(1), 0);
        Due.is("nobody: SECOND", x.second(), 0);
        Due.is("nobody: LEAVE", x.leave(), NONE);
        Due.is("nobody: WANT of all", x.count(7), 0);
        x.sheet(0, 0, 0);
        Due.is("nobody: WAYS", x.plates(0, 0), 2 + 4 + 8);
        Due.is("nobody: ORDERS of twelve", x.plates(0, 1), 0);
        Due.is("nobody: who isn't so", x.eaten(0, NONE), 0);
        x.set(0, 0, 0);
        Due.is("nobody: ORDERS of none", x.plates(0, 1), 1);
        x.sheet(1, 1, 3);
        Due.is("nobody: a SHEET of how many each has", x.film(1, 3), 0);
        Due.is("nobody: a SHEET of none, but not missing", x.eaters(1, 0, 0, 0), 0);
        Due.is("nobody: a SHEET of none", x.cell(1, 0, 0), -12);
        come(x, 2, 3);
        for (int way = 0; way <= 3; way++) {
            Due.is("no cakes: COST", x.supper(way, 0, 0), 120);
            Due.is("no cakes: FAIR", x.supper(way, 0, 1), 0);
            Due.is("no cakes: given", x.supper(way, 0, 2), 0);
            Due.is("no cakes: WASTED", x.supper(way, 0, 3), 0);
            Due.is("no cakes: HAD", x.supper(way, 0, 11), 0);
            Due.is("no cakes: WAITS", x.supper(way, 0, 21), 60);
            Due.is("no cakes: none given", x.supper(way, 0, 31), NONE);
        }
        Due.is("no cakes: KEEP", x.keep(0), 1);
        Due.is("no cakes: KEEP, COST", x.keep(1), 120);
        Due.is("no cakes: SECOND", x.second(), 0);
        Due.is("no cakes: LEAVE", x.leave(), 0);
        Due.is("no cakes: BEST", x.best(0, NONE), 120);
        Due.is("no cakes: DRAWN", x.drawn(3), 120);
        Due.is("no cakes: CHANCE", x.chance(3, 20, 0), 1);
        Due.is("no cakes: CHANCE", x.chance(3, 20, 1), 1);
    }

    private static void cost() {
        // The most: five GREEDY ones of NUMBER 9 wait for all 60 MINUTES.
        FirstOne x = Kitchen.by("20", "99", "0");
        x.set(0, 0, 0);
        for (int e = 0; e < 5; e++) {
            x.eater(3, 901, 1);
        }
        Due.is("COST: the most", x.supper(1, 0, 0), 5 * 60 * 216);
        // The least: twelve cakes of 99, and nobody is hungry.
        x = Kitchen.by("1", "0", "99");
        x.set(0, 0, 12);
        come(x, 1, 0);
        Due.is("COST: the least", x.supper(1, 0, 0), -12 * 99);
        // What is wasted is worth nothing.
        x.sheet(0, 0, 0);
        Due.is("COST: all wasted", x.supper(0, 0, 0), 0);
        Due.is("COST: again, nobody has HAD any yet", x.supper(1, 0, 0), -12 * 99);
    }

    private static void fair() {
        FirstOne x = Kitchen.by("1", "0", "0");
        x.set(0, 0, 12);
        come(x, 1, 0);
        Due.is("FAIR: one EATER", x.supper(1, 0, 1), 0);
        come(x, 1, 0);
        x.sheet(0, 0, 12);
        Due.is("FAIR: all to one of two", x.supper(0, 0, 1), 12);
        Due.is("FAIR: by turns", x.supper(1, 0, 1), 1);
        x.set(0, 0, 1);
        Due.is("FAIR: one cake", x.supper(1, 0, 1), 1);
        // Apart behind a MINUTE, though not behind the last: 2 to the first, then 2 to the second.
        Kitchen.row(x, 0, 0, 0, 0, 1, 1);
        x.set(0, 0, 4);
        Due.is("FAIR: made up for later", x.supper(0, 0, 1), 2);
        x.set(1, 0, 2);
        Kitchen.row(x, 0, 0, 0, 1, 1, 0);
        Due.is("FAIR: made up for in the MINUTE", x.supper(0, 0, 1), 0);
        // Apart behind the last MINUTE that there is.
        x = Kitchen.by("20-(cake=0)", "0", "0");
        x.set(0, 0, 3);
        come(x, 2, 0);
        Kitchen.row(x, 0, 0, -1, -1, 1);
        Due.is("FAIR: in MINUTE 59", x.supper(0, 0, 1), 1);
    }

    // ---- WAYS

    private static void tellsWhom() {
        FirstOne x = Kitchen.by("1", "0", "0");
        come(x, 3, 0);
        x.set(0, 0, 1);
        int[][] items = {{MIN, NONE}, {-2, NONE}, {-1, NONE}, {0, 0}, {1, 1}, {2, 2}, {3, NONE}, {5, NONE},
            {MAX, NONE}};
        for (int[] i : items) {
            Kitchen.row(x, 0, 2, i[0]);
            Due.is("way 0: WASTED by " + i[0], x.supper(0, 0, 3), i[1] == NONE ? 1 : 0);
            for (int e = 0; e < 3; e++) {
                Due.is("way 0: HAD by " + i[0], x.supper(0, 0, 10 + e), i[1] == e ? 1 : 0);
            }
        }
        // As bytes and shorts they are: 255 and 65535 are -1, 256 and 65536 are 0.
        int[][] narrow = {{0, 255, NONE}, {0, 256, 0}, {0, 257, 1}, {0, 128, NONE}, {0, -254, 2}, {1, 65535, NONE},
            {1, 65536, 0}, {1, 256, NONE}, {1, 65538, 2}, {1, 32768, NONE}, {2, 65536, NONE}};
        for (int[] n : narrow) {
            Kitchen.row(x, 0, n[0], n[1]);
            for (int e = 0; e < 3; e++) {
                Due.is("way 0: by " + n[1] + " of sort " + n[0], x.supper(0, 0, 10 + e), n[2] == e ? 1 : 0);
            }
        }
        x.set(0, 0, 12);
        int[] sizes = {0, 1, 11, 12, 13, 40};
        for (int size : sizes) {
            x.sheet(0, 1, size);
            Due.is("way 0: a SHEET of " + size, x.supper(0, 0, 2), Math.min(size, 12));
            Due.is("way 0: a SHEET of " + size, x.supper(0, 0, 3), 12 - Math.min(size, 12));
        }
    }

    private static void turns() {
        for (int many = 1; many <= 5; many++) {
            FirstOne x = Kitchen.by("1", "0", "cake*7+1");
            come(x, many, 0);
            x.set(0, 0, 12);
            for (int e = 0; e < many; e++) {
                int due = 0;
                for (int k = e; k < 12; k += many) {
                    due++;
                }
                Due.is("way 1: of " + many, x.supper(1, 0, 10 + e), due);
            }
            Due.is("way 1: nobody who isn't there", x.supper(1, 0, 10 + many), NONE_SUCH);
        }
    }

    private static void hungriest() {
        FirstOne x = Kitchen.by("4", "1", "0");
        come(x, 3, 0);
        Due.is("way 2: all want none", x.supper(2, 0, 3), 8);
        x.set(3, 2, 1);
        Due.is("way 2: the last one wants one", x.supper(2, 0, 12), 1);
        Due.is("way 2: nobody, then", x.supper(2, 0, 3), 7);
        x.set(3, 2, 7);
        Due.is("way 2: fewer than WANT, not as many", x.supper(2, 0, 12), 7);
        Due.is("way 2: nobody for the last one", x.supper(2, 0, 3), 1);
        x.set(3, 0, 12);
        Due.is("way 2: of like ones the first", x.supper(2, 0, 10), 8);
        // HUNGERS of 0 are some, too.
        x = Kitchen.by("4", "0", "0");
        come(x, 2, 3);
        Due.is("way 2: nobody is hungry, of like ones the first", x.supper(2, 0, 10), 3);
        Due.is("way 2: then the second", x.supper(2, 0, 11), 3);
        Due.is("way 2: then nobody", x.supper(2, 0, 3), 2);
    }

    private static void least() {
        FirstOne x = Kitchen.by("4", "0", "0");
        come(x, 5, 0);
        x.set(0, 0, 12);
        // WANT does not matter, of like ones it is the first.
        int[] due = {3, 3, 2, 2, 2};
        for (int e = 0; e < 5; e++) {
            Due.is("way 3: of like ones the first", x.supper(3, 0, 10 + e), due[e]);
        }
        Due.is("way 3: none is wasted", x.supper(3, 0, 3), 0);
    }

    // ---- HEAP, BEST, KEEP, SECOND, LEAVE

    private static void heapRows() {
        FirstOne x = Kitchen.by("4", "0", "minute");
        come(x, 1, 0);
        for (int batter = 0; batter <= 12; batter++) {
            x.set(0, 0, batter);
            for (int c = 1; c <= 12; c++) {
                Due.is("HEAP: rows of " + c + ", " + batter + " cakes", x.heap(c, 30), rowsEnd(batter, c));
                Due.is("HEAP: rows of " + c + ", " + batter + " cakes, given", x.heap(c, 2), batter);
            }
        }
        Due.is("HEAP: no row of 0", x.heap(0, 0), NONE_SUCH);
        Due.is("HEAP: no row of 13", x.heap(13, 0), NONE_SUCH);
    }

    /** The MINUTE in which the last cake is eaten by one who eats each in a MINUTE: a row is, ahead of the next. */
    private static int rowsEnd(int batter, int c) {
        int at = NONE;
        for (int from = 0; from < batter; from += c) {
            int to = Math.min(from + c, batter);
            at = Math.max(at, 4 * to) + to - from;
        }
        return at;
    }

    private static void best() {
        FirstOne x = Kitchen.by("1", "0", "eater+1");
        come(x, 2, 0);
        for (int batter = 0; batter <= 12; batter++) {
            x.set(0, 0, batter);
            int turns = batter + batter / 2;
            for (int n = 0; n <= 5; n++) {
                boolean so = n <= 4 && n <= batter;
                Due.is("BEST: " + n + " of " + batter, x.best(n, NONE), so ? -turns - (n + 1) / 2 : NONE_SUCH);
                for (int k = 0; k < n; k++) {
                    Due.is("BEST: " + n + " of " + batter + ", CAKE " + k, x.best(n, k), so ? 1 : NONE_SUCH);
                }
                Due.is("BEST: " + n + " of " + batter + ", CAKE n", x.best(n, n), NONE_SUCH);
            }
            Due.is("BEST: n -1", x.best(-1, NONE), NONE_SUCH);
        }
        // The last of all 625 ways is tried, too.
        x = Kitchen.by("1", "0", "(eater=4)*(cake<4)*9");
        x.set(0, 0, 4);
        come(x, 5, 0);
        Due.is("BEST: the last way", x.best(4, NONE), -36);
        for (int k = 0; k < 4; k++) {
            Due.is("BEST: the last way", x.best(4, k), 4);
        }
        // One EATER: there is just one way.
        x = Kitchen.by("1", "0", "5");
        come(x, 1, 0);
        Due.is("BEST: one EATER", x.best(4, NONE), -40);
        Due.is("BEST: one EATER", x.best(4, 3), 0);
        // COST may be more than nothing, and less.
        x = Kitchen.by("20", "9", "0");
        come(x, 2, 12);
        x.set(0, 0, 1);
        Due.is("BEST: of like ones the first", x.best(1, 0), 0);
        Due.is("BEST: COST above 0", x.best(1, NONE), 9 * (60 + 59));
    }

    /** BEST, KEEP and IN n seeds are of the very suppers that are asked for one by one. */
    private static void bestOfAll() {
        FirstOne x = Kitchen.by("3+cake", "minute*2-had*9+eater*3", "40-late*3+had*5-eater*cake");
        x.eater(0, 4, 7);
        x.eater(2, 303, 5);
        x.eater(3, 205, 9);
        x.eater(4, 112, 3);
        int least = MAX;
        int first = 0;
        Kitchen.row(x, 0, 0, 0, 0, 0, 3, 0, 1, 2, 3);
        for (int way = 0; way < 64; way++) {
            x.cell(0, 0, way / 16);
            x.cell(0, 1, way / 4 % 4);
            x.cell(0, 2, way % 4);
            int cost = x.supper(0, 0, 0);
            if (cost < least) {
                least = cost;
                first = way;
            }
        }
        Due.is("BEST: of all 64 ways", x.best(3, NONE), least);
        Due.is("BEST: CAKE 0 of 64 ways", x.best(3, 0), first / 16);
        Due.is("BEST: CAKE 1 of 64 ways", x.best(3, 1), first / 4 % 4);
        Due.is("BEST: CAKE 2 of 64 ways", x.best(3, 2), first % 4);
        x = Kitchen.by("3+cake", "minute*2-had*9+eater*3", "40-late*3+had*5-eater*cake");
        x.eater(0, 12, 7);
        x.eater(2, 303, 5);
        x.set(0, 0, 12);
        least = MAX;
        for (int c = 1; c <= 12; c++) {
            if (x.heap(c, 0) < least) {
                least = x.heap(c, 0);
                first = c;
            }
        }
        Due.is("KEEP: of all 12", x.keep(0), first);
        Due.is("KEEP: of all 12, COST", x.keep(1), least);
        int so = 0;
        for (int i = 0; i < 20; i++) {
            so += x.drawn(i - 9) <= x.supper(1, 0, 0) ? 1 : 0;
        }
        Due.is("IN n: of 20 drawn", 20 * x.chance(-9, 20, 0), so * x.chance(-9, 20, 1));
    }

    private static void keep() {
        // Late by 44 less 3 k, if all are SERVED in 48.
        FirstOne x = Kitchen.by("4", "0", "late");
        x.set(0, 0, 12);
        come(x, 1, 0);
        Due.is("KEEP: 12", x.keep(0), 12);
        Due.is("KEEP: 12, COST", x.keep(1), -330);
        // Five begin a cake in 44, if rows are of 11.
        x = Kitchen.by("4", "0", "9*(minute=44)");
        x.set(0, 0, 12);
        come(x, 5, 0);
        Due.is("KEEP: 11", x.keep(0), 11);
        Due.is("KEEP: 11, COST", x.keep(1), -45);
        x = Kitchen.by("4", "0", "9*(minute=8)");
        x.set(0, 0, 12);
        come(x, 2, 0);
        Due.is("KEEP: 2", x.keep(0), 2);
        Due.is("KEEP: 2, COST", x.keep(1), -18);
        x = Kitchen.by("4", "0", "9*(minute=4)");
        x.set(0, 0, 12);
        come(x, 2, 0);
        Due.is("KEEP: 1", x.keep(0), 1);
        Due.is("KEEP: 1, COST", x.keep(1), -9);
        x = Kitchen.by("4", "1", "0");
        come(x, 1, 12);
        x.set(0, 0, 0);
        Due.is("KEEP: of like ones the least", x.keep(0), 1);
        Due.is("KEEP: COST above 0", x.keep(1), 60);
    }

    private static void second() {
        FirstOne x = Kitchen.by("20", "1", "0");
        come(x, 2, 1);
        // One PAN: 20 and 40; two PANS: 20 and 20.
        Due.is("SECOND: what it is worth", x.second(), 20);
        x.set(0, 0, 1);
        Due.is("SECOND: one cake", x.second(), 0);
        x.set(0, 0, 12);
        come(x, 3, 1);
        // One PAN: 20, 40, never: 60 each for three; two PANS: 20, 20, 40, 40, never.
        Due.is("SECOND: by which more are SERVED", x.second(), 20 + 40 + 180 - (20 + 20 + 40 + 40 + 60));
        x.set(1, 0, 2);
        Due.is("SECOND: whatever PANS are", x.second(), 60);
        Due.is("SECOND: PANS stay", x.count(2), 2);
        // Less than nothing.
        x = Kitchen.by("4", "0", "minute");
        come(x, 1, 12);
        x.set(0, 0, 2);
        Due.is("SECOND: worse than none", x.second(), -(8 - 5));
    }

    private static void leave() {
        FirstOne x = Kitchen.by("4", "1+eater", "0");
        Due.is("LEAVE: there are none", x.leave(), NONE);
        for (int e = 0; e < 5; e++) {
            come(x, 1, 12);
            x.set(0, 0, 0);
            Due.is("LEAVE: the hungriest of " + (e + 1), x.leave(), e);
        }
        x = Kitchen.by("4", "1", "0");
        come(x, 5, 12);
        Due.is("LEAVE: of like ones the first", x.leave(), 0);
        x = Kitchen.by("4", "0", "eater*9");
        come(x, 5, 0);
        x.set(3, 0, 12);
        x.set(3, 4, 12);
        // By way 2 all go to the first one: without that one they are worth 36 each.
        Due.is("LEAVE: the first", x.leave(), 0);
        Due.is("LEAVE: how many stay", x.count(0), 5);
    }

    // ---- plates at the end

    private static void plates() {
        FirstOne x = Kitchen.by("1", "0", "0");
        come(x, 1, 12);
        x.set(0, 0, 12);
        Kitchen.row(x, 0, 0, 12);
        Due.is("WAYS: all three", x.plates(0, 0), 14);
        Kitchen.row(x, 0, 0, 11);
        Due.is("WAYS: one less", x.plates(0, 0), 0);
        Kitchen.row(x, 0, 0, 13);
        Due.is("WAYS: one more", x.plates(0, 0), 0);
        Kitchen.row(x, 0, 0, 12 + 256);
        Due.is("WAYS: as bytes", x.plates(0, 0), 14);
        Kitchen.row(x, 0, 1, 12 + 256);
        Due.is("WAYS: as shorts", x.plates(0, 0), 0);
        x.set(3, 0, 0);
        Kitchen.row(x, 0, 2, 12);
        Due.is("WAYS: 1 and 3", x.plates(0, 0), 10);
        Kitchen.row(x, 0, 2, 0);
        Due.is("WAYS: 2", x.plates(0, 0), 4);
        // The last of five counts, too.
        come(x, 4, 0);
        Kitchen.row(x, 0, 2, 3, 3, 2, 2, 2);
        Due.is("WAYS: of five", x.plates(0, 0), 10);
        Kitchen.row(x, 0, 2, 3, 3, 2, 2, 1);
        Due.is("WAYS: the last one has one less", x.plates(0, 0), 0);
        Kitchen.row(x, 0, 2, 2, 3, 2, 2, 2);
        Due.is("WAYS: the first one has one less", x.plates(0, 0), 0);
        // A SHEET of as many items as there are EATERS, not of one more or less.
        for (int n = 0; n <= 40; n++) {
            x.sheet(0, 0, n);
            Due.is("PLATES: of " + n, x.plates(0, 0), n == 5 ? 4 : FirstOne.NO);
            Due.is("PLATES: of " + n, x.plates(0, 1), n == 5 ? 0 : FirstOne.NO);
            Due.is("EATEN: of " + n, x.eaten(0, NONE), n == 5 ? 31 : FirstOne.BAD);
            Due.is("EATEN: of " + n, x.eaten(0, 4), n == 5 ? 0 : FirstOne.BAD);
        }
    }

    private static void orders() {
        FirstOne x = Kitchen.by("1", "0", "0");
        come(x, 2, 0);
        long[] due = {1, 12, 66, 220, 495, 792, 924, 792, 495, 220, 66, 12, 1};
        x.set(0, 0, 12);
        for (int had = -1; had <= 13; had++) {
            Kitchen.row(x, 0, 1, had, 12 - had);
            Due.is("ORDERS: " + had + " of 12", x.plates(0, 1), had < 0 || had > 12 ? 0 : due[had]);
            Kitchen.row(x, 0, 1, had, 13 - had);
            Due.is("ORDERS: 13 in all", x.plates(0, 1), 0);
            Kitchen.row(x, 0, 1, had, 11 - had);
            Due.is("ORDERS: 11 in all", x.plates(0, 1), 0);
        }
        Kitchen.row(x, 0, 2, MIN, MIN);
        Due.is("ORDERS: a sum that wraps to 0", x.plates(0, 1), 0);
        Kitchen.row(x, 0, 2, MAX, MAX);
        Due.is("ORDERS: a sum that wraps", x.plates(0, 1), 0);
        Kitchen.row(x, 0, 2, MIN, MIN + 12);
        Due.is("ORDERS: a sum that wraps to 12", x.plates(0, 1), 0);
        Kitchen.row(x, 0, 2, MAX, MIN + 13);
        Due.is("ORDERS: a sum that wraps to 12", x.plates(0, 1), 0);
        x.set(0, 0, 0);
        Kitchen.row(x, 0, 2, 0, 0);
        Due.is("ORDERS: no cakes", x.plates(0, 1), 1);
        Kitchen.row(x, 0, 2, 1, 0);
        Due.is("ORDERS: no cakes, but one", x.plates(0, 1), 0);
        Kitchen.row(x, 0, 2, -1, 1);
        Due.is("ORDERS: no cakes, one and one less than none", x.plates(0, 1), 0);
    }

    /** READY 20 and 40, SERVING: eats 2 more than PACE. */
    private static FirstOne eatenLate(int pace) {
        FirstOne x = Kitchen.by("20", "0", "0");
        x.set(0, 0, 2);
        x.eater(4, 0, pace);
        return x;
    }

    private static void eaten() {
        int[][] so = {{16, 58}, {17, 59}, {18, 60}, {19, 60}, {20, 60}};
        for (int[] s : so) {
            FirstOne x = eatenLate(s[0]);
            for (int minute = 57; minute <= 63; minute++) {
                Kitchen.row(x, 0, 0, minute);
                Due.is("EATEN: PACE " + s[0] + ", " + minute, x.eaten(0, NONE), minute == s[1] ? 0 : 1);
            }
            int minute = s[0] < 19 ? 42 + s[0] : 24 + 2 * s[0];
            Due.is("EATEN: supper() tells the MINUTE itself", x.supper(1, 0, 30), minute);
        }
        FirstOne x = Kitchen.by("1", "0", "0");
        come(x, 5, 0);
        x.set(0, 0, 0);
        Kitchen.row(x, 0, 0, NONE, NONE, NONE, NONE, NONE);
        Due.is("EATEN: none was given", x.eaten(0, NONE), 0);
        Kitchen.row(x, 0, 0, 0, 60, -2, 1, 127);
        Due.is("EATEN: none was given, all are not so", x.eaten(0, NONE), 31);
        Kitchen.row(x, 0, 0, NONE, NONE, NONE, NONE, 0);
        Due.is("EATEN: the last one isn't so", x.eaten(0, NONE), 16);
        Kitchen.row(x, 0, 0, 60, NONE, NONE, NONE, NONE);
        Due.is("EATEN: the first one isn't so", x.eaten(0, NONE), 1);
        Kitchen.row(x, 0, 0, 255, 255, 255, 255, 255);
        Due.is("EATEN: 255 is NONE in bytes", x.eaten(0, NONE), 0);
        Kitchen.row(x, 0, 1, 65535, 255, 65535, 255, 65535);
        Due.is("EATEN: 65535 is NONE in shorts, 255 isn't", x.eaten(0, NONE), 10);
        x.set(0, 0, 4);
        Kitchen.row(x, 0, 0, 2, 3, 4, 5, NONE);
        Due.is("EATEN: the last one gets none", x.eaten(0, NONE), 0);
    }

    private static void paces() {
        FirstOne x = eatenLate(1);
        int[][] so = {{42, 0}, {43, 1 << 1}, {44, 1 << 2}, {58, 1 << 16}, {59, 1 << 17},
            {60, 1 << 18 | 1 << 19 | 1 << 20}, {61, 0}, {62, 0}, {NONE, 0}, {0, 0}};
        for (int[] s : so) {
            Kitchen.row(x, 0, 0, s[0]);
            Due.is("PACES: " + s[0], x.eaten(0, 0), s[1]);
        }
        Due.is("PACES: PACE stays", x.told(0, 4), 1);
        // None was given, or all are above 59: every PACE.
        int every = (1 << 21) - 2;
        x.set(0, 0, 0);
        Kitchen.row(x, 0, 0, NONE);
        Due.is("PACES: none was given", x.eaten(0, 0), every);
        x = Kitchen.by("20-(cake=0)", "0", "0");
        x.set(0, 0, 3);
        x.eater(0, 0, 1);
        Kitchen.row(x, 0, 0, 60);
        Due.is("PACES: begun in 59", x.eaten(0, 0), every);
        // One's own alone: the other stays as it is, and isn't looked at.
        x = Kitchen.by("4", "0", "0");
        x.set(0, 0, 2);
        x.eater(0, 0, 3);
        x.eater(0, 0, 20);
        Kitchen.row(x, 0, 0, 24, 28);
        Due.is("PACES: of the first", x.eaten(0, 0), 1 << 20);
        Due.is("PACES: of the second", x.eaten(0, 1), 1 << 20);
        Kitchen.row(x, 0, 0, 5, 9);
        Due.is("PACES: of the first", x.eaten(0, 0), 1 << 1);
        Due.is("PACES: of the second", x.eaten(0, 1), 1 << 1);
    }

    private static void drawn() {
        // z is 12345, 24 by (z >>> 9).
        FirstOne x = Kitchen.by("1", "0", "eater+1");
        come(x, 5, 0);
        x.set(0, 0, 1);
        Due.is("DRAWN: SEED 0", x.drawn(0), -(24 % 5 + 1));
        // 1103515245 + 12345 = 1103527590, 2155327 by (z >>> 9).
        Due.is("DRAWN: SEED 1", x.drawn(1), -(2155327 % 5 + 1));
        // -1103515245 + 12345 is below 0: -1103502900, as 32 bits 3191464396, 6233328 by (z >>> 9).
        Due.is("DRAWN: SEED -1", x.drawn(-1), -(6233328 % 5 + 1));
        // -2147483648 * an odd number is -2147483648; and 12345: -2147471303, 4194328 by (z >>> 9).
        Due.is("DRAWN: the least SEED", x.drawn(MIN), -(4194328 % 5 + 1));
        // One less: -2147471303 - 1103515245 wraps to 1043980748, 2039024 by (z >>> 9).
        Due.is("DRAWN: the greatest SEED", x.drawn(MAX), -(2039024 % 5 + 1));
        x = Kitchen.by("1", "0", "eater+1");
        come(x, 1, 0);
        x.set(0, 0, 12);
        Due.is("DRAWN: one EATER", x.drawn(7), -12);
        x.set(0, 0, 0);
        Due.is("DRAWN: no cakes", x.drawn(7), 0);
    }

    private static void inSeeds() {
        // Cake 0 is eater 0's by way 1, worth 1; of two, (z >>> 9) % 2 is 0 for SEED 0, 1 for SEED 1.
        FirstOne x = Kitchen.by("1", "0", "eater=0");
        x.set(0, 0, 1);
        come(x, 2, 0);
        Due.is("IN n: 1", x.chance(0, 1, 0), 1);
        Due.is("IN n: 1", x.chance(0, 1, 1), 1);
        Due.is("IN n: none of 1", x.chance(1, 1, 0), 0);
        Due.is("IN n: none of 1, in lowest terms", x.chance(1, 1, 1), 1);
        Due.is("IN n: one of 2", x.chance(0, 2, 0), 1);
        Due.is("IN n: one of 2", x.chance(0, 2, 1), 2);
        Due.is("IN n: no 0", x.chance(0, 0, 0), FirstOne.NO);
        Due.is("IN n: 20", x.chance(0, 20, 1) > 0 ? 1 : 0, 1);
        Due.is("IN n: no 21", x.chance(0, 21, 0), FirstOne.NO);
        // MAX and then MIN: 2039024 is even, 4194328, too.
        Due.is("IN n: the seeds wrap", x.chance(MAX, 2, 0), 1);
        Due.is("IN n: the seeds wrap", x.chance(MAX, 2, 1), 1);
        int so = 0;
        for (int i = 0; i < 20; i++) {
            so += x.drawn(MAX - 9 + i) <= x.supper(1, 0, 0) ? 1 : 0;
        }
        Due.is("IN n: the seeds wrap among 20", 20 * x.chance(MAX - 9, 20, 0), so * x.chance(MAX - 9, 20, 1));
        // No more than COST by way 1: as much, too.
        x.force(0);
        x.set(3, 0, 0);
        Due.is("IN n: as much as by way 1", x.chance(5, 20, 0), 1);
        Due.is("IN n: as much as by way 1", x.chance(5, 20, 1), 1);
    }

    private static void image() {
        FirstOne x = new FirstOne();
        Due.is("AN IMAGE: there is none", x.back(), FirstOne.STATE);
        Due.is("AN IMAGE: of nobody", x.image(), 0);
        come(x, 5, 1);
        Due.is("AN IMAGE: no room", x.eater(0, 0, 1), FirstOne.FULL);
        Due.is("AN IMAGE: all have gone", x.back(), 0);
        Due.is("AN IMAGE: nobody there", x.told(0, 0), FirstOne.BAD);
        Due.is("AN IMAGE: there is room again", x.eater(4, 101, 2), 0);
        come(x, 4, 1);
        Due.is("AN IMAGE: of five", x.image(), 5);
        x.set(0, 0, 12);
        Due.is("AN IMAGE: five", x.back(), 5);
        Due.is("AN IMAGE: BATTER", x.count(1), 8);
        Due.is("AN IMAGE: none has gone", x.eater(0, 0, 1), FirstOne.FULL);
        Due.is("AN IMAGE: KIND of who came anew", x.told(0, 0), 4);
    }

    private static void count() {
        FirstOne x = Kitchen.by("1", "0", "0");
        come(x, 5, 12);
        x.set(0, 0, 12);
        Due.is("WANT of all: the most", x.count(7), 60);
        Due.is("SERVED: the most", x.count(6), 12);
        x.force(Due.read(x, "takes 20;hunger 0;worth 0;"));
        Due.is("SERVED: two", x.count(6), 2);
        x.set(1, 0, 2);
        Due.is("SERVED: four", x.count(6), 4);
        x.set(0, 0, 0);
        Due.is("SERVED: none", x.count(6), 0);
        for (int e = 0; e < 5; e++) {
            x.set(3, e, 0);
        }
        Due.is("WANT of all: none", x.count(7), 0);
    }
}
