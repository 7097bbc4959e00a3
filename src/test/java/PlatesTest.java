/** Promises 15 to 22: plates, eaten, film, drawn, chance, image, back, count. */
public final class PlatesTest {
    public static void main(String[] args) {
        ways();
        orders();
        platesRefuses();
        eaten();
        eatenRefuses();
        film();
        filmRefuses();
        drawn();
        chance();
        chanceRefuses();
        imageAndBack();
        whatAnImageLeaves();
        count();
        Due.close("PlatesTest");
    }

    private static FirstOne table(int... wants) {
        FirstOne x = new FirstOne();
        for (int want : wants) {
            x.eater(0, want, 1);
        }
        return x;
    }

    private static long plates(FirstOne x, int what, int... items) {
        Kitchen.row(x, 3, 2, items);
        return x.plates(3, what);
    }

    private static void ways() {
        FirstOne x = table(1, 9);
        x.set(0, 0, 3);
        // By way 1 and by way 3: 2, 1. By way 2: 1, 2.
        Due.is("15: ways 1 and 3", plates(x, 0, 2, 1), 2 + 8);
        Due.is("15: way 2", plates(x, 0, 1, 2), 4);
        Due.is("15: no way", plates(x, 0, 3, 0), 0);
        Due.is("15: no way", plates(x, 0, -1, 4), 0);
        x.set(3, 0, 9);
        Due.is("15: by hunger all to the first", plates(x, 0, 3, 0), 4);
        x.force(Due.read(x, "takes 4;hunger 9-had;worth 0;"));
        Due.is("15: every way", plates(x, 0, 2, 1), 14);
        x.set(0, 0, 0);
        Due.is("15: nothing at all", plates(x, 0, 0, 0), 14);
        x = new FirstOne();
        Due.is("15: nobody", plates(x, 0), 14);
        // Two pans: cakes 1, 3, 5 in minutes 1, 2, 3, cakes 0 and 2 in minutes 20 and 40, cake 4 never.
        x = table(0, 0);
        x.set(0, 0, 6);
        x.set(1, 0, 2);
        x.force(Due.read(x, "takes 1+19*(cake=0 or cake=2 or cake=4);hunger 1;worth 0;"));
        Due.is("15: way 1, which goes by numbers", plates(x, 0, 2, 3), 2);
        Due.is("15: way 3", plates(x, 0, 3, 2), 8);
        Due.is("15: way 2, by which nobody wants any", plates(x, 0, 0, 0), 4);
        Due.is("15: orders of those that are served", plates(x, 1, 2, 3), 10);
    }

    private static void orders() {
        FirstOne x = table(0, 0);
        x.set(0, 0, 4);
        Due.is("15: 4 and 0", plates(x, 1, 4, 0), 1);
        Due.is("15: 3 and 1", plates(x, 1, 3, 1), 4);
        Due.is("15: 2 and 2", plates(x, 1, 2, 2), 6);
        Due.is("15: too few", plates(x, 1, 2, 1), 0);
        Due.is("15: too many", plates(x, 1, 3, 2), 0);
        Due.is("15: below none", plates(x, 1, 5, -1), 0);
        Due.is("15: below none", plates(x, 1, -1, 5), 0);
        Due.is("15: a sum that wraps", plates(x, 1, Integer.MIN_VALUE, Integer.MIN_VALUE + 4), 0);
        Due.is("15: far too many", plates(x, 1, Integer.MAX_VALUE, Integer.MAX_VALUE), 0);
        x = table(0, 0, 0, 0, 0);
        x.set(0, 0, 12);
        x.force(Due.read(x, "takes 1;hunger 1;worth 0;"));
        Due.is("15: the most", plates(x, 1, 3, 3, 2, 2, 2), 1663200);
        Due.is("15: 4 4 2 1 1", plates(x, 1, 4, 4, 2, 1, 1), 415800);
        x.force(0);
        Due.is("15: 12 cakes by 4 minutes", plates(x, 1, 3, 3, 2, 2, 2), 1663200);
        x.force(Due.read(x, "takes 10;hunger 1;worth 0;"));
        Due.is("15: only five are served", plates(x, 1, 3, 3, 2, 2, 2), 0);
        Due.is("15: only five are served", plates(x, 1, 1, 1, 1, 1, 1), 120);
        x.set(0, 0, 0);
        Due.is("15: none is served", plates(x, 1, 0, 0, 0, 0, 0), 1);
        Due.is("15: none is served", plates(x, 1, 1, 0, 0, 0, 0), 0);
        x = new FirstOne();
        Due.is("15: nobody for eight", plates(x, 1), 0);
        x.set(0, 0, 0);
        Due.is("15: nobody for none", plates(x, 1), 1);
    }

    private static void platesRefuses() {
        FirstOne x = table(1, 1);
        Kitchen.row(x, 0, 0, 4, 4);
        Kitchen.row(x, 1, 0, 4);
        Kitchen.row(x, 2, 0, 4, 4, 0);
        String before = Seen.of(x);
        int[][] wrong = {{-1, 0}, {4, 0}, {0, -1}, {0, 2}, {1, 0}, {1, 1}, {2, 0}, {2, 1}, {3, 0}, {3, 1},
            {Integer.MAX_VALUE, 0}, {Integer.MIN_VALUE, 0}, {0, Integer.MAX_VALUE}, {0, Integer.MIN_VALUE}};
        for (int[] w : wrong) {
            Due.is("15: plates " + w[0] + " " + w[1], x.plates(w[0], w[1]), FirstOne.NO);
        }
        Seen.same("15: plates", before, x);
        Due.is("15: as many as eaters", x.plates(0, 1), 70);
    }

    private static void eaten() {
        FirstOne x = table(0, 0, 0);
        x.set(4, 1, 3);
        x.set(0, 0, 2);
        // Eaten in minutes 5, 11, and none.
        Kitchen.row(x, 0, 0, 5, 11, -1);
        Due.is("16: all so", x.eaten(0, -1), 0);
        Kitchen.row(x, 0, 1, 6, 11, 0);
        Due.is("16: two not so", x.eaten(0, -1), 1 + 4);
        Kitchen.row(x, 0, 2, -1, -1, -1);
        Due.is("16: two others not so", x.eaten(0, -1), 1 + 2);
        Kitchen.row(x, 0, 2, 5, 11, -1);
        Due.is("16: PACES of the first", x.eaten(0, 0), 1 << 1);
        Due.is("16: PACES of the second", x.eaten(0, 1), 1 << 3);
        Due.is("16: PACES of who has none", x.eaten(0, 2), (1 << 21) - 2);
        Kitchen.row(x, 0, 2, -1, 28, 60);
        Due.is("16: no PACE", x.eaten(0, 0), 0);
        Due.is("16: the slowest", x.eaten(0, 1), 1 << 20);
        Due.is("16: no PACE", x.eaten(0, 2), 0);
        Due.is("16: PACE is as it was", x.told(1, 4), 3);
        x.eater(1, 0, 9);
        x.set(0, 0, 12);
        // Eater 3, a quick one, has cakes 3, 7, 11 in minutes 16, 32, 48.
        Kitchen.row(x, 0, 0, 0, 0, 0, 52);
        Due.is("16: a quick one", x.eaten(0, 3), 1 << 8 | 1 << 9);
        Kitchen.row(x, 0, 0, 0, 0, 0, 60);
        Due.is("16: above 59 it is 60", x.eaten(0, 3), 0);
        x.set(4, 3, 20);
        Kitchen.row(x, 0, 0, 0, 0, 0, 58);
        Due.is("16: one such", x.eaten(0, 3), 1 << 20);
        Kitchen.row(x, 0, 0, 60, 0, 0, 0);
        // Eater 0 has cakes 0, 4, 8 in minutes 4, 20, 36: by PACE p behind 36 + p or 4 + 3 p: above 59 from 19 on.
        Due.is("16: 60 for all above 59", x.eaten(0, 0), 1 << 19 | 1 << 20);
        Kitchen.row(x, 0, 0, 61, 0, 0, 0);
        Due.is("16: never 61", x.eaten(0, 0), 0);
        Kitchen.row(x, 0, 0, 59, 0, 0, 0);
        Due.is("16: 59 is 59", x.eaten(0, 0), 0);
        x.set(4, 0, 20);
        Kitchen.row(x, 0, 0, 60, 0, 0, 58);
        Due.is("16: who isn't so", x.eaten(0, -1), 2 + 4);
        x = new FirstOne();
        x.sheet(0, 0, 0);
        Due.is("16: nobody", x.eaten(0, -1), 0);
    }

    private static void eatenRefuses() {
        FirstOne x = table(1, 1);
        Kitchen.row(x, 0, 0, 4, 4);
        Kitchen.row(x, 1, 0, 4);
        Kitchen.row(x, 2, 0, 4, 4, 0);
        String before = Seen.of(x);
        int[][] wrong = {{-1, -1}, {4, -1}, {0, -2}, {0, 2}, {3, 2}, {3, -2}, {1, -1}, {1, 0}, {2, -1}, {2, 1},
            {Integer.MAX_VALUE, 0}, {Integer.MIN_VALUE, 0}, {0, Integer.MAX_VALUE}, {0, Integer.MIN_VALUE}};
        for (int[] w : wrong) {
            Due.is("16: eaten " + w[0] + " " + w[1], x.eaten(w[0], w[1]), FirstOne.BAD);
        }
        Due.is("16: missing", x.eaten(3, -1), -11);
        Due.is("16: missing", x.eaten(3, 1), -11);
        Seen.same("16: eaten", before, x);
    }

    private static void film() {
        FirstOne x = table(1, 9);
        x.set(0, 0, 3);
        Due.is("17: how many", x.film(2, 2), 2);
        Due.is("17: it is so", x.plates(2, 0), 4);
        Due.is("17: bytes", x.copy(2, 0, 2, 0, 1), 1);
        x.sheet(1, 0, 2);
        Due.is("17: bytes", x.copy(2, 0, 1, 0, 2), 2);
        x.cell(2, 0, 257);
        Due.is("17: 257 is 1 there, 2 is no eater", x.supper(0, 2, 11), 1);
        Due.is("17: way 1", x.film(2, 1), 2);
        Due.is("17: way 1", x.plates(2, 0), 10);
        x.sheet(3, 2, 40);
        Due.is("17: what was a longer row", x.film(3, 3), 2);
        Due.is("17: is as long as the table", x.cell(3, 2, 0), -12);
        Due.is("17: way 3", x.plates(3, 0), 10);
        x = new FirstOne();
        Due.is("17: nobody", x.film(0, 1), 0);
        Due.is("17: a row of none", x.cell(0, 0, 0), -12);
    }

    private static void filmRefuses() {
        FirstOne x = table(1, 9);
        String before = Seen.of(x);
        int[][] wrong = {{-1, 1}, {4, 1}, {0, 0}, {0, 4}, {0, -1}, {Integer.MAX_VALUE, 1}, {Integer.MIN_VALUE, 1},
            {0, Integer.MAX_VALUE}, {0, Integer.MIN_VALUE}};
        for (int[] w : wrong) {
            Due.is("17: film " + w[0] + " " + w[1], x.film(w[0], w[1]), FirstOne.BAD);
        }
        Seen.same("17: film", before, x);
    }

    private static int draw(int z) {
        return z * 1103515245 + 12345;
    }

    private static void drawn() {
        FirstOne x = new FirstOne();
        Due.is("18: nobody", x.drawn(5), FirstOne.NO);
        for (int e = 0; e < 5; e++) {
            x.eater(0, 0, 1);
        }
        x.force(Due.read(x, "takes 1;hunger 0;worth (cake=0)*eater+(cake=1)*eater*5;"));
        int[] seeds = {0, 1, -1, 5, 77, 123456789, -987654321, Integer.MAX_VALUE, Integer.MIN_VALUE};
        for (int seed : seeds) {
            int z = draw(seed);
            int first = (z >>> 9) % 5;
            int next = (draw(z) >>> 9) % 5;
            Due.is("18: drawn " + seed, x.drawn(seed), -(first + 5 * next));
        }
        x.set(0, 0, 0);
        Due.is("18: no cakes", x.drawn(5), 0);
        // By numbers, not by when they are ready: cake 1 is first out of the second pan.
        x.set(0, 0, 2);
        x.set(1, 0, 2);
        x.force(Due.read(x, "takes 1+9*(cake=0);hunger 0;worth (cake=1)*eater;"));
        Due.is("18: by numbers", x.drawn(3), -((draw(draw(3)) >>> 9) % 5));
        // Those who aren't served are drawn for, too.
        x.set(1, 0, 1);
        x.force(Due.read(x, "takes 1;hunger 0;worth eater;"));
        Due.is("18: of m", x.drawn(3), -((draw(3) >>> 9) % 5 + (draw(draw(3)) >>> 9) % 5));
    }

    private static void chance() {
        FirstOne x = table(0, 0);
        x.force(Due.read(x, "takes 1;hunger 0;worth eater*9;"));
        x.set(0, 0, 1);
        // By way 1 cake 0 is eater 0's: COST 0, which no drawing is above.
        Due.is("19: all", x.chance(1, 20, 0), 1);
        Due.is("19: all", x.chance(1, 20, 1), 1);
        x.force(Due.read(x, "takes 1;hunger 0;worth 9-eater*9;"));
        for (int n = 1; n <= 20; n++) {
            int above = 0;
            for (int i = 0; i < n; i++) {
                above += (draw(Integer.MAX_VALUE - 3 + i) >>> 9) % 2 == 0 ? 1 : 0;
            }
            int both = n;
            while (above % both != 0 || n % both != 0) {
                both--;
            }
            Due.is("19: above, of " + n, x.chance(Integer.MAX_VALUE - 3, n, 0), above / both);
            Due.is("19: below, of " + n, x.chance(Integer.MAX_VALUE - 3, n, 1), n / both);
        }
        // None: no eater but 0 is worth a thing, and cake 0 is drawn for another one.
        int seed = 0;
        while ((draw(seed) >>> 9) % 2 == 0) {
            seed++;
        }
        Due.is("19: none", x.chance(seed, 1, 0), 0);
        Due.is("19: none of one", x.chance(seed, 1, 1), 1);
    }

    private static void chanceRefuses() {
        FirstOne x = new FirstOne();
        Due.is("19: nobody", x.chance(1, 1, 0), FirstOne.NO);
        x.eater(0, 1, 1);
        String before = Seen.of(x);
        int[][] wrong = {{0, 0}, {-1, 0}, {21, 0}, {1, -1}, {1, 2}, {Integer.MAX_VALUE, 0}, {Integer.MIN_VALUE, 0},
            {1, Integer.MAX_VALUE}, {1, Integer.MIN_VALUE}};
        for (int[] w : wrong) {
            Due.is("19: chance of " + w[0] + ", part " + w[1], x.chance(7, w[0], w[1]), FirstOne.NO);
        }
        Seen.same("19: chance", before, x);
        Due.is("19: one seed", x.chance(Integer.MIN_VALUE, 1, 1), 1);
    }

    private static void imageAndBack() {
        FirstOne x = new FirstOne();
        Due.is("21: there is none", x.back(), FirstOne.STATE);
        Due.is("20: of nobody", x.image(), 0);
        Due.read(x, "takes 5;hunger 1;worth 1;");
        Due.read(x, "takes 6;hunger 1;worth 1;");
        x.eater(3, 302, 5);
        x.eater(4, 911, 20);
        x.set(0, 0, 7);
        x.set(1, 0, 2);
        x.force(1);
        String seen = Seen.of(x);
        Due.is("20: how many", x.image(), 2);
        x.set(0, 0, 1);
        x.set(1, 0, 1);
        x.force(2);
        for (int e = 0; e < 2; e++) {
            x.set(2, e, 0);
            x.set(3, e, 0);
            x.set(4, e, 1);
        }
        x.eater(0, 5, 5);
        x.eater(0, 5, 5);
        Due.is("21: how many", x.back(), 2);
        Due.holds("21: all is as it was", seen.equals(Seen.of(x)));
        Due.is("21: KIND", x.told(1, 0), 4);
        Due.is("21: who came since is gone", x.told(2, 0), FirstOne.BAD);
        x.set(2, 0, 9);
        x.eater(5, 5, 5);
        Due.is("21: a second time", x.back(), 2);
        Due.holds("21: the image stays as it was", seen.equals(Seen.of(x)));
        Due.is("21: there is room again", x.eater(5, 707, 7), 2);
        Due.is("21: of a kind of its own", x.told(2, 0), 5);
        Due.is("20: a later image", x.image(), 3);
        x.set(3, 2, 0);
        Due.is("21: back to the later one", x.back(), 3);
        Due.is("21: want", x.told(2, 3), 7);
    }

    private static void whatAnImageLeaves() {
        FirstOne x = new FirstOne();
        Due.is("20: an image", x.image(), 0);
        x.feed('a');
        Kitchen.row(x, 0, 1, 7, 8, 9);
        Due.read(x, "takes 5;hunger 1;worth 1;");
        Due.read(x, "takes 6;hunger 1;worth 1;");
        x.feed('b');
        Due.is("21: back", x.back(), 0);
        Due.is("21: a sheet stays", x.cell(0, 2, 1), 1);
        Due.is("21: texts stay", x.count(3), 2);
        Due.is("21: the tape stays", x.count(4), 1);
    }

    private static void count() {
        FirstOne x = new FirstOne();
        x.eater(0, 12, 1);
        x.eater(0, 912, 1);
        x.eater(5, 5, 1);
        x.set(0, 0, 11);
        x.set(1, 0, 2);
        x.feed(1);
        Due.is("22: EATERS", x.count(0), 3);
        Due.is("22: BATTER", x.count(1), 11);
        Due.is("22: PANS", x.count(2), 2);
        Due.is("22: TEXTS", x.count(3), 1);
        Due.is("22: bytes", x.count(4), 1);
        Due.is("22: THE RULE", x.count(5), 0);
        Due.is("22: SERVED", x.count(6), 11);
        Due.is("22: WANT of all", x.count(7), 29);
        x.text();
        Due.is("22: bytes", x.count(4), 0);
        x.force(Due.read(x, "takes 10-(cake=5);hunger 1;worth 1;"));
        Due.is("22: TEXTS", x.count(3), 2);
        Due.is("22: THE RULE", x.count(5), 1);
        // Two pans: even ones 10 to 60, odd ones 10, 20, 29, 39, 49.
        Due.is("22: SERVED by two pans", x.count(6), 10);
        x.set(1, 0, 1);
        Due.is("22: SERVED by one: one in minute 59", x.count(6), 6);
        String before = Seen.of(x);
        int[] wrong = {-1, 8, Integer.MAX_VALUE, Integer.MIN_VALUE};
        for (int w : wrong) {
            Due.is("22: count " + w, x.count(w), FirstOne.BAD);
        }
        Seen.same("22: count", before, x);
    }
}
