/** Promises 1 to 5: a new object, set, eater, told, ready. */
public final class TableTest {
    public static void main(String[] args) {
        aNewObject();
        set();
        setRefuses();
        eater();
        eaterRefuses();
        toldOfKinds();
        toldRefuses();
        ready();
        Due.close("TableTest");
    }

    private static void aNewObject() {
        FirstOne x = new FirstOne();
        Due.is("1: EATERS", x.count(0), 0);
        Due.is("1: BATTER", x.count(1), 8);
        Due.is("1: PANS", x.count(2), 1);
        Due.is("1: TEXTS", x.count(3), 1);
        Due.is("1: bytes of THE TAPE", x.count(4), 0);
        Due.is("1: THE RULE", x.count(5), 0);
        Due.is("1: SERVED", x.count(6), 8);
        Due.is("1: WANT", x.count(7), 0);
        Due.is("1: no image", x.back(), FirstOne.STATE);
        for (int sheet = 0; sheet < 4; sheet++) {
            Due.is("1: a sheet is missing", x.cell(sheet, 0, 0), -11);
        }
    }

    private static void set() {
        FirstOne x = new FirstOne();
        Due.is("2: batter was 8", x.set(0, 77, 12), 8);
        Due.is("2: of does not matter", x.set(0, -5, 0), 12);
        Due.is("2: batter was 0", x.set(0, 0, 3), 0);
        Due.is("2: pans were 1", x.set(1, 0, 2), 1);
        Due.is("2: pans were 2", x.set(1, Integer.MIN_VALUE, 1), 2);
        x.eater(0, 302, 5);
        x.eater(1, 911, 20);
        Due.is("2: number", x.set(2, 1, 0), 9);
        Due.is("2: number back", x.set(2, 1, 9), 0);
        Due.is("2: want", x.set(3, 0, 12), 2);
        Due.is("2: want back", x.set(3, 0, 0), 12);
        Due.is("2: pace", x.set(4, 1, 1), 20);
        Due.is("2: pace back", x.set(4, 1, 20), 1);
        Due.is("2: the other's number stays", x.told(0, 2), 3);
        Due.is("2: the other's pace stays", x.told(0, 4), 5);
        Due.is("2: want is so", x.told(0, 3), 0);
        Due.is("2: batter is so", x.count(1), 3);
    }

    private static void setRefuses() {
        FirstOne x = new FirstOne();
        x.eater(0, 302, 5);
        String before = Seen.of(x);
        int[][] wrong = {{0, 0, -1}, {0, 0, 13}, {1, 0, 0}, {1, 0, 3}, {2, 0, -1}, {2, 0, 10}, {2, 1, 5}, {2, -1, 5},
            {3, 0, -1}, {3, 0, 13}, {3, 1, 5}, {3, -1, 5}, {4, 0, 0}, {4, 0, 21}, {4, 1, 5}, {4, 5, 5}, {-1, 0, 1},
            {5, 0, 1}, {Integer.MAX_VALUE, 0, 1}, {Integer.MIN_VALUE, 0, 1}, {0, 0, Integer.MAX_VALUE},
            {2, Integer.MAX_VALUE, 1}, {2, Integer.MIN_VALUE, 1}};
        for (int[] w : wrong) {
            Due.is("2: set " + w[0] + " " + w[1] + " " + w[2], x.set(w[0], w[1], w[2]), FirstOne.BAD);
        }
        Seen.same("2: set", before, x);
    }

    private static void eater() {
        FirstOne x = new FirstOne();
        for (int e = 0; e < 5; e++) {
            Due.is("3: the number", x.eater(e + 1, 100 * (9 - e) + 12 - e, 20 - e), e);
        }
        for (int e = 0; e < 5; e++) {
            Due.is("3: KIND", x.told(e, 0), e + 1);
            Due.is("3: NUMBER", x.told(e, 2), 9 - e);
            Due.is("3: WANT", x.told(e, 3), 12 - e);
            Due.is("3: PACE", x.told(e, 4), 20 - e);
        }
    }

    private static void eaterRefuses() {
        FirstOne x = new FirstOne();
        int[][] wrong = {{-1, 0, 1}, {6, 0, 1}, {0, -1, 1}, {0, 13, 1}, {0, 99, 1}, {0, 113, 1}, {0, 913, 1},
            {0, 1000, 1}, {0, -100, 1}, {0, 0, 0}, {0, 0, 21}, {0, 0, -1}, {Integer.MIN_VALUE, 0, 1},
            {0, Integer.MIN_VALUE, 1}, {0, Integer.MAX_VALUE, 1}, {0, 0, Integer.MAX_VALUE}};
        String before = Seen.of(x);
        for (int[] w : wrong) {
            Due.is("3: eater " + w[0] + " " + w[1] + " " + w[2], x.eater(w[0], w[1], w[2]), FirstOne.BAD);
        }
        Seen.same("3: eater", before, x);
        for (int e = 0; e < 5; e++) {
            Due.is("3: edges come", x.eater(5, 912, 20), e);
        }
        before = Seen.of(x);
        Due.is("3: a sixth", x.eater(0, 0, 1), FirstOne.FULL);
        for (int[] w : wrong) {
            Due.is("3: BAD ahead of FULL", x.eater(w[0], w[1], w[2]), FirstOne.BAD);
        }
        Seen.same("3: eater when full", before, x);
    }

    private static void eats(int pace, int... due) {
        for (int kind = 0; kind < 6; kind++) {
            FirstOne x = new FirstOne();
            x.eater(kind, 0, pace);
            Due.is("4: EATS of kind " + kind + " by pace " + pace, x.told(0, 1), due[kind]);
        }
    }

    private static void hungers(String hunger, int... due) {
        for (int kind = 0; kind < 6; kind++) {
            FirstOne x = new FirstOne();
            x.force(Due.read(x, "takes 1;hunger " + hunger + ";worth 1;"));
            x.eater(kind, 304, 1);
            Due.is("4: HUNGERS of kind " + kind + " by " + hunger, x.told(0, 5), due[kind]);
        }
    }

    private static void toldOfKinds() {
        eats(1, 1, 1, 1, 1, 3, 2);
        eats(2, 2, 1, 2, 1, 4, 4);
        eats(3, 3, 1, 3, 1, 5, 6);
        eats(5, 5, 2, 5, 1, 7, 10);
        eats(8, 8, 4, 8, 3, 10, 16);
        eats(20, 20, 10, 20, 9, 22, 40);
        hungers("10", 10, 13, 10, 26, 5, 5);
        hungers("9", 9, 12, 9, 24, 4, 5);
        hungers("4", 4, 7, 4, 14, 2, 4);
        hungers("0", 0, 3, 0, 6, 0, 0);
        hungers("-7", 0, 3, 0, 6, 0, 0);
        hungers("100", 99, 102, 99, 204, 49, 5);
        hungers("minute+had+cake+late+eater+want", 4, 7, 4, 14, 2, 4);
        FirstOne x = new FirstOne();
        x.force(Due.read(x, "takes 1;hunger eater*10+want;worth 1;"));
        x.eater(0, 904, 1);
        x.eater(0, 907, 1);
        Due.is("4: eater is the place at the table, not the NUMBER", x.told(1, 5), 17);
    }

    private static void toldRefuses() {
        FirstOne x = new FirstOne();
        Due.is("4: nobody there", x.told(0, 0), FirstOne.BAD);
        x.eater(0, 0, 1);
        int[][] wrong = {{-1, 0}, {1, 0}, {5, 0}, {0, -1}, {0, 6}, {Integer.MAX_VALUE, 0}, {Integer.MIN_VALUE, 0},
            {0, Integer.MAX_VALUE}, {0, Integer.MIN_VALUE}};
        for (int[] w : wrong) {
            Due.is("4: told " + w[0] + " " + w[1], x.told(w[0], w[1]), FirstOne.BAD);
        }
    }

    private static void ready() {
        FirstOne x = new FirstOne();
        for (int k = 0; k < 8; k++) {
            Due.is("5: one pan", x.ready(k), 4 * (k + 1));
        }
        x.set(1, 0, 2);
        for (int k = 0; k < 8; k++) {
            Due.is("5: two pans", x.ready(k), 4 * (k / 2 + 1));
        }
        x.force(Due.read(x, "takes cake+minute+had+want+eater+late;hunger 1;worth 1;"));
        x.set(0, 0, 12);
        // 1 (the bound), 1, 2, 3, 4, 5, 6, 7, 8, 9, 10, 11 minutes.
        int[] two = {1, 1, 3, 4, 7, 9, 13, 16, 21, 25, 31, 36};
        for (int k = 0; k < 12; k++) {
            Due.is("5: two pans, more for later ones", x.ready(k), two[k]);
        }
        x.set(1, 0, 1);
        int sum = 1;
        for (int k = 0; k < 12; k++) {
            sum += k;
            Due.is("5: one pan, more for later ones", x.ready(k), sum);
        }
        x.force(Due.read(x, "takes 21;hunger 1;worth 1;"));
        Due.is("5: 20 is the bound", x.ready(11), 240);
        Due.is("5: no such cake", x.ready(12), FirstOne.BAD);
        Due.is("5: no such cake", x.ready(-1), FirstOne.BAD);
        x.set(0, 0, 3);
        Due.is("5: the last one", x.ready(2), 60);
        Due.is("5: no such cake", x.ready(3), FirstOne.BAD);
        Due.is("5: no such cake", x.ready(Integer.MAX_VALUE), FirstOne.BAD);
        Due.is("5: no such cake", x.ready(Integer.MIN_VALUE), FirstOne.BAD);
        x.set(0, 0, 0);
        Due.is("5: none at all", x.ready(0), FirstOne.BAD);
    }
}
