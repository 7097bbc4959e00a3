/**
 * The document's "==== 3" and the host's calls, sentence by sentence: a sheet of 0 and of 40 items, a missing one, the
 * first and the last place, the first outside at both ends, ints that are narrowed.
 */
public final class HostEdgeTest {
    private static final int MAX = Integer.MAX_VALUE, MIN = Integer.MIN_VALUE;

    public static void main(String[] args) {
        allAreMissing();
        sheets();
        sizes();
        allAreNought();
        sideBySide();
        cells();
        narrowed();
        copies();
        copiesOverThemselves();
        copiesAsTheyWere();
        eatersFromTo();
        eatersAtTheEnds();
        eatersLeftOut();
        eatersNarrowed();
        taken();
        Due.close("HostEdgeTest");
    }

    /** An item, if it is one of 0 .. 12: then it is told by the BATTER of which one EATER has HAD as many. */
    private static int seen(FirstOne x, int sheet, int sort, int i) {
        x.sheet(3, sort, 1);
        Due.is("copied out", x.copy(sheet, i, 3, 0, 1), 1);
        for (int n = 0; n <= 12; n++) {
            x.set(0, 0, n);
            if (x.plates(3, 0) != 0) {
                return n;
            }
        }
        return FirstOne.NONE;
    }

    private static void item(String what, FirstOne x, int sheet, int sort, int i, int due) {
        Due.is(what + ": item " + i, seen(x, sheet, sort, i), due >= 0 && due <= 12 ? due : FirstOne.NONE);
    }

    private static FirstOne one() {
        FirstOne x = new FirstOne();
        x.eater(0, 12, 1);
        return x;
    }

    // ---- SHEETS 0 .. 3 of sort 0 .. 2

    private static void allAreMissing() {
        FirstOne x = new FirstOne();
        for (int sheet = -1; sheet <= 4; sheet++) {
            boolean so = sheet >= 0 && sheet <= 3;
            Due.is("missing at first " + sheet, x.cell(sheet, 0, 1), so ? -11 : FirstOne.BAD);
            Due.is("missing at first " + sheet, x.copy(sheet, 0, sheet, 0, 0), so ? -11 : FirstOne.BAD);
            Due.is("missing at first " + sheet, x.eaters(sheet, 0, 0, 0), so ? -11 : FirstOne.BAD);
            Due.is("missing at first " + sheet, x.eaten(sheet, -1), so ? -11 : FirstOne.BAD);
            Due.is("missing at first " + sheet, x.supper(0, sheet, 0), -100000);
            Due.is("missing at first " + sheet, x.plates(sheet, 0), FirstOne.NO);
            Due.is("missing made missing " + sheet, x.sheet(sheet, -1, 0), so ? 1 : FirstOne.BAD);
            Due.is("missing still " + sheet, x.cell(sheet, 0, 1), so ? -11 : FirstOne.BAD);
        }
    }

    private static void sheets() {
        for (int sheet = -2; sheet <= 5; sheet++) {
            for (int sort = -3; sort <= 4; sort++) {
                FirstOne x = new FirstOne();
                boolean so = sheet >= 0 && sheet <= 3 && sort >= -1 && sort <= 2;
                Due.is("sheet " + sheet + " of sort " + sort, x.sheet(sheet, sort, 1), so ? 1 : FirstOne.BAD);
                for (int other = 0; other <= 3; other++) {
                    boolean is = so && other == sheet && sort >= 0;
                    Due.is("sheet " + sheet + " of sort " + sort + ", " + other, x.cell(other, 0, 1), is ? 1 : -11);
                    for (int s = 0; s <= 2; s++) {
                        Due.is("its sort", x.eaters(other, s, 0, 0), !is ? -11 : s == sort ? 0 : -13);
                    }
                }
            }
        }
    }

    private static void sizes() {
        for (int sort = -1; sort <= 2; sort++) {
            int[][] sizes = {{MIN, -14}, {-1, -14}, {0, 1}, {1, 1}, {39, 1}, {40, 1}, {41, -2}, {42, -2}, {MAX, -2}};
            for (int[] s : sizes) {
                FirstOne x = new FirstOne();
                x.sheet(2, 1, 7);
                String what = "a SHEET of sort " + sort + ", of " + s[0];
                Due.is(what, x.sheet(2, sort, s[0]), sort == -1 ? 1 : s[1]);
                int size = sort == -1 ? 0 : s[1] == 1 ? s[0] : 7;
                int outside = sort == -1 ? -11 : -12;
                Due.is(what + ", its last item", x.cell(2, size - 1, 1), size > 0 ? 1 : outside);
                Due.is(what + ", behind it", x.cell(2, size, 1), outside);
                Due.is(what + ", ahead of it", x.cell(2, -1, 1), outside);
            }
        }
    }

    /** All 0, whatever stood there. */
    private static void allAreNought() {
        for (int sort = 0; sort <= 2; sort++) {
            FirstOne x = one();
            x.sheet(0, sort, 40);
            for (int i = 0; i < 40; i++) {
                x.cell(0, i, 7);
            }
            x.sheet(0, sort, 40);
            for (int i = 0; i < 40; i += 13) {
                item("all 0 anew", x, 0, sort, i, 0);
            }
            x.cell(0, 39, 7);
            x.sheet(0, sort, 1);
            x.sheet(0, sort, 40);
            item("all 0 anew, though it was short between", x, 0, sort, 39, 0);
            x.cell(0, 0, 7);
            x.sheet(0, -1, 40);
            x.sheet(0, sort, 40);
            item("all 0 anew, though it was missing between", x, 0, sort, 0, 0);
        }
    }

    /** The next SHEET's first item isn't this one's last. */
    private static void sideBySide() {
        FirstOne x = one();
        for (int sheet = 0; sheet < 3; sheet++) {
            x.sheet(sheet, 2, 40);
        }
        x.cell(0, 39, 3);
        x.cell(1, 0, 4);
        x.cell(1, 39, 5);
        x.cell(2, 0, 6);
        item("side by side", x, 0, 2, 39, 3);
        item("side by side", x, 1, 2, 0, 4);
        item("side by side", x, 1, 2, 39, 5);
        item("side by side", x, 2, 2, 0, 6);
    }

    private static void cells() {
        int[] sizes = {0, 1, 2, 40};
        for (int size : sizes) {
            for (int i = -2; i <= 41; i++) {
                FirstOne x = one();
                x.sheet(1, 0, size);
                boolean so = i >= 0 && i < size;
                Due.is("item " + i + " of " + size, x.cell(1, i, 9), so ? 1 : -12);
                if (so) {
                    item("item of " + size, x, 1, 0, i, 9);
                }
            }
        }
    }

    private static void narrowed() {
        int[][] puts = {
            {0, 12, 12}, {0, 268, 12}, {0, -244, 12}, {0, 65536 + 12, 12}, {0, MIN + 12, 12}, {0, MAX, -1},
            {0, 127, 127}, {0, 140, -116}, {0, 256, 0}, {0, MIN, 0},
            {1, 12, 12}, {1, 268, 268}, {1, 65548, 12}, {1, -65524, 12}, {1, MIN + 12, 12}, {1, MAX, -1},
            {1, 32780, -32756}, {1, 65536, 0}, {1, MIN, 0},
            {2, 12, 12}, {2, 268, 268}, {2, 65548, 65548}, {2, MIN + 12, MIN + 12}, {2, MAX, MAX}, {2, MIN, MIN}};
        for (int[] p : puts) {
            FirstOne x = one();
            x.sheet(0, p[0], 2);
            Due.is("put " + p[1], x.cell(0, 1, p[1]), 1);
            item("put " + p[1] + " in sort " + p[0], x, 0, p[0], 1, p[2]);
            item("put " + p[1] + " in sort " + p[0] + ", the other", x, 0, p[0], 0, 0);
        }
    }

    // ---- copy

    private static void copies() {
        FirstOne x = one();
        x.sheet(0, 1, 40);
        x.sheet(1, 1, 3);
        x.sheet(2, 1, 0);
        int[][] all = {
            {0, 0, 0, 0, 40, 40}, {0, 0, 0, 0, 41, -12}, {0, 39, 1, 2, 1, 1}, {0, 39, 1, 2, 2, -12},
            {0, 40, 1, 3, 0, 0}, {0, 41, 1, 3, 0, -12}, {0, 40, 1, 4, 0, -12}, {0, 37, 1, 0, 3, 3},
            {0, 38, 1, 0, 3, -12}, {0, 0, 1, 0, 3, 3}, {0, 0, 1, 0, 4, -12}, {0, 0, 1, 1, 3, -12},
            {1, 0, 0, 37, 3, 3}, {1, 0, 0, 38, 3, -12}, {1, 3, 0, 40, 0, 0}, {2, 0, 2, 0, 0, 0}, {2, 0, 2, 0, 1, -12},
            {2, 1, 2, 0, 0, -12}, {2, 0, 2, 1, 0, -12}, {0, 0, 2, 0, 0, 0}, {0, 40, 2, 0, 0, 0}, {0, 0, 2, 0, 1, -12},
            {0, -1, 1, 0, 0, -12}, {0, 0, 1, -1, 0, -12}, {0, 0, 1, 0, -1, -12}, {0, 2, 1, 2, -1, -12},
            {0, MAX, 1, 0, 1, -12}, {0, MAX, 1, 0, MAX, -12}, {0, 1, 1, 0, MAX, -12}, {0, 0, 1, 1, MAX, -12},
            {0, MIN, 1, 0, MAX, -12}, {0, 0, 1, 0, MIN, -12}, {0, MIN, 1, MIN, MIN, -12}};
        for (int[] a : all) {
            Due.is("copy " + a[0] + " " + a[1] + " " + a[2] + " " + a[3] + " " + a[4],
                x.copy(a[0], a[1], a[2], a[3], a[4]), a[5]);
        }
    }

    private static FirstOne counted() {
        FirstOne x = one();
        Kitchen.row(x, 0, 2, 0, 1, 2, 3, 4, 5, 6, 7, 8, 9, 10, 11);
        return x;
    }

    private static void copiesOverThemselves() {
        for (int from = 0; from < 12; from += 3) {
            for (int to = 0; to < 12; to += 2) {
                int n = 12 - Math.max(from, to);
                FirstOne x = counted();
                Due.is("onto itself", x.copy(0, from, 0, to, n), n);
                for (int i = 0; i < 12; i++) {
                    int due = i >= to && i < to + n ? i - to + from : i;
                    item("onto itself, from " + from + " to " + to, x, 0, 2, i, due);
                }
            }
        }
    }

    private static void copiesAsTheyWere() {
        FirstOne x = counted();
        Kitchen.row(x, 1, 2, 12, 12, 12, 12);
        Due.is("just so many", x.copy(0, 5, 1, 1, 2), 2);
        int[] due = {12, 5, 6, 12};
        for (int i = 0; i < 4; i++) {
            item("just so many, to another one", x, 1, 2, i, due[i]);
        }
        for (int i = 0; i < 12; i++) {
            item("just so many, from one", x, 0, 2, i, i);
        }
        Due.is("none", x.copy(0, 5, 1, 1, 0), 0);
        item("none", x, 1, 2, 1, 5);
    }

    // ---- eaters

    private static void eatersFromTo() {
        for (int n = -1; n <= 6; n++) {
            FirstOne x = new FirstOne();
            x.sheet(0, 1, 40);
            for (int i = 2; i < 40; i += 3) {
                x.cell(0, i, 1);
            }
            Due.is("n " + n, x.eaters(0, 1, 0, n), n >= 0 && n <= 5 ? n : FirstOne.BAD);
            Due.is("n " + n + ", how many there are", x.count(0), n >= 0 && n <= 5 ? n : 0);
        }
    }

    /** From one item on, of so many, three by three: how many come ahead of the end. */
    private static void eatersAtTheEnds() {
        int[] sizes = {0, 1, 2, 3, 4, 15, 39, 40};
        int[] froms = {MIN, MIN + 1, -3, -2, -1, 0, 1, 2, 3, 12, 25, 36, 37, 38, 39, 40, 41, MAX - 2, MAX - 1, MAX};
        for (int size : sizes) {
            for (int from : froms) {
                for (int n = 0; n <= 5; n++) {
                    FirstOne x = new FirstOne();
                    x.sheet(0, 2, size);
                    for (int i = 0; i < size; i++) {
                        x.cell(0, i, 1);
                    }
                    int came = 0;
                    while (came < n && from >= 0 && from + 3L * came + 3 <= size) {
                        came++;
                    }
                    String what = n + " from " + from + " of " + size;
                    Due.is(what, x.eaters(0, 2, from, n), came == n ? n : -12);
                    Due.is(what + ": what stood ahead came", x.count(0), came);
                }
            }
        }
    }

    private static void eatersLeftOut() {
        // The last of each three: taken, or left out by one of them alone.
        int[][] threes = {{0, 0, 1, 1}, {5, 912, 20, 1}, {-1, 0, 1, 0}, {6, 0, 1, 0}, {0, -1, 1, 0}, {0, 13, 1, 0},
            {0, 1000, 1, 0}, {0, 0, 0, 0}, {0, 0, 21, 0}, {MIN, 0, 1, 0}, {0, MIN, 1, 0}, {0, 0, MIN, 0},
            {0, 0, MAX, 0}};
        for (int[] t : threes) {
            FirstOne x = new FirstOne();
            Kitchen.row(x, 0, 2, 4, 305, 6, t[0], t[1], t[2], 2, 101, 3);
            Due.is("left out " + t[0] + " " + t[1] + " " + t[2], x.eaters(0, 2, 0, 3), 2 + t[3]);
            Due.is("how many there are", x.count(0), 2 + t[3]);
            Due.is("who stood ahead", x.told(0, 0), 4);
            Due.is("who stood behind", x.told(1 + t[3], 0), 2);
        }
        // As many as the table has room for.
        for (int there = 0; there <= 5; there++) {
            FirstOne x = new FirstOne();
            for (int e = 0; e < there; e++) {
                x.eater(0, 0, 1);
            }
            x.sheet(0, 0, 15);
            for (int i = 2; i < 15; i += 3) {
                x.cell(0, i, 1);
            }
            Due.is("room for " + (5 - there), x.eaters(0, 0, 0, 5), 5 - there);
            Due.is("full", x.count(0), 5);
            Due.is("none has room", x.eaters(0, 0, 0, 5), 0);
            Due.is("none has room, and the end", x.eaters(0, 0, 3, 5), -12);
            Due.is("full still", x.count(0), 5);
        }
    }

    private static void eatersNarrowed() {
        FirstOne x = new FirstOne();
        Kitchen.row(x, 0, 0, 0, 127, 1, 0, 128, 1, 0, 912, 1, 0, 112, 1);
        // 127 is no WANT, 128 and 912 are below 0 in bytes.
        Due.is("in bytes", x.eaters(0, 0, 0, 4), 1);
        Due.is("in bytes", x.told(0, 3), 12);
        x = new FirstOne();
        Kitchen.row(x, 0, 1, 0, 912, 1, 0, 65536 + 912, 1, 0, 32768, 1, 65536, 65536, 65537);
        Due.is("in shorts", x.eaters(0, 1, 0, 4), 3);
        Due.is("in shorts", x.told(1, 2), 9);
        Due.is("in shorts", x.told(2, 4), 1);
        x = new FirstOne();
        Kitchen.row(x, 0, 2, 0, 912, 1, 0, 65536 + 912, 1, MIN, 0, 1, 0, 0, MAX);
        Due.is("in ints", x.eaters(0, 2, 0, 4), 1);
    }

    // ---- taken

    private static void taken() {
        int[] above = {-1, 0, 0, 1, 2, 0};
        FirstOne x = new FirstOne();
        for (int kind = 1; kind <= 5; kind++) {
            x.eater(kind, 100 * (10 - kind - 1), 1);
        }
        x.set(2, 0, 9);
        x.set(2, 4, 0);
        for (int e = -1; e <= 5; e++) {
            for (int k = -1; k <= 6; k++) {
                int due = -13;
                if (k < 0 || k > 5) {
                    due = FirstOne.BAD;
                } else if (e < 0 || e > 4) {
                    due = -11;
                } else {
                    for (int kind = e + 1; kind >= 0; kind = above[kind]) {
                        due = kind == k ? x.told(e, 2) : due;
                    }
                }
                Due.is("taken " + e + " for " + k, x.taken(e, k), due);
            }
        }
        Due.is("taken: the greatest NUMBER", x.taken(0, 0), 9);
        Due.is("taken: the least NUMBER", x.taken(4, 5), 0);
    }
}
