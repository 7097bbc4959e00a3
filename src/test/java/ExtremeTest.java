/** LANGUAGE.md's rule 7: whatever ints a call is given, in whatever state, it answers, and as the Oracle does. */
public final class ExtremeTest {
    private static final int MAX = Integer.MAX_VALUE;
    private static final int MIN = Integer.MIN_VALUE;
    private static final int[] MANY = {MIN, MIN + 1, -100000, -256, -100, -14, -2, -1, 0, 1, 2, 3, 4, 5, 6, 7, 8, 9,
        10, 12, 13, 14, 15, 19, 20, 21, 24, 29, 30, 34, 39, 40, 41, 59, 60, 100, 160, 255, 256, 912, 1000, 65536,
        MAX - 1, MAX};
    private static final int[] SOME = {MIN, MIN + 1, -1, 0, 1, 2, 3, 4, 5, 11, 12, 20, 40, 41, MAX - 1, MAX};
    private static final int[] FEW = {MIN, -1, 0, 1, 2, 4, 5, MAX - 1, MAX};

    private static FirstOne x;
    private static Oracle o;

    public static void main(String[] args) {
        for (int state = 0; state < 4; state++) {
            begin(state);
            asks();
            begin(state);
            changes();
            begin(state);
            rows();
        }
        theDearestCalls();
        Due.close("ExtremeTest");
    }

    private static void begin(int state) {
        x = new FirstOne();
        o = new Oracle();
        if (state == 0) {
            return;
        }
        String text = state == 1 ? "takes 20;hunger 99;worth 0;"
            : "takes cake-2;hunger minute*minute*9999*9999*9999;worth -9999*9999*9999*late;";
        for (int i = 0; i < text.length(); i++) {
            x.feed(text.charAt(i));
            o.feed(text.charAt(i));
        }
        like("text", x.text(), o.text());
        like("force", x.force(1), o.force(1));
        for (int e = 0; e < 2 * state - 1; e++) {
            like("eater", x.eater(e + 1, 912 - e, 20 - e), o.eater(e + 1, 912 - e, 20 - e));
        }
        if (state == 3) {
            like("pans", x.set(1, 0, 2), o.set(1, 0, 2));
            like("batter", x.set(0, 0, 12), o.set(0, 0, 12));
        }
        for (int s = 0; s < state; s++) {
            like("sheet", x.sheet(s, s, 2 * state - 1), o.sheet(s, s, 2 * state - 1));
            like("cell", x.cell(s, 0, MIN), o.cell(s, 0, MIN));
            like("cell", x.cell(s, 1, MAX), o.cell(s, 1, MAX));
        }
    }

    private static void like(String call, long got, long due) {
        Due.is(call, got, due);
    }

    private static void asks() {
        for (int a : MANY) {
            like("ready " + a, x.ready(a), o.ready(a));
            like("keep " + a, x.keep(a), o.keep(a));
            like("drawn " + a, x.drawn(a), o.drawn(a));
            like("count " + a, x.count(a), o.count(a));
            for (int b : MANY) {
                like("told " + a + " " + b, x.told(a, b), o.told(a, b));
                like("heap " + a + " " + b, x.heap(a, b), o.heap(a, b));
                like("plates " + a + " " + b, x.plates(a, b), o.plates(a, b));
                like("eaten " + a + " " + b, x.eaten(a, b), o.eaten(a, b));
                like("taken " + a + " " + b, x.taken(a, b), o.taken(a, b));
            }
        }
        for (int a : SOME) {
            for (int b : SOME) {
                like("best " + a + " " + b, a == 4 ? 0 : x.best(a, b), a == 4 ? 0 : o.best(a, b));
                for (int c : SOME) {
                    like("supper " + a + " " + b + " " + c, x.supper(a, b, c), o.supper(a, b, c));
                    if (c != 0 || b > 20 || b < 2) {
                        like("chance " + a + " " + b + " " + c, x.chance(a, b, c), o.chance(a, b, c));
                    }
                }
            }
        }
    }

    private static void changes() {
        for (int a : MANY) {
            like("feed " + a, x.feed(a), o.feed(a));
            like("text", x.text(), o.text());
            like("force " + a, x.force(a), o.force(a));
            like("image", x.image(), o.image());
            for (int b : MANY) {
                for (int c : MANY) {
                    like("set " + a + " " + b + " " + c, x.set(a, b, c), o.set(a, b, c));
                    like("eater " + a + " " + b + " " + c, x.eater(a, b, c), o.eater(a, b, c));
                    if (x.count(0) == 5) {
                        like("back", x.back(), o.back());
                    }
                }
            }
            like("back", x.back(), o.back());
            same();
        }
    }

    private static void rows() {
        for (int a : FEW) {
            for (int b : FEW) {
                like("film " + a + " " + b, x.film(a, b), o.film(a, b));
                for (int c : FEW) {
                    like("sheet " + a + " " + b + " " + c, x.sheet(a, b, c), o.sheet(a, b, c));
                    like("cell " + a + " " + b + " " + c, x.cell(a, b, c), o.cell(a, b, c));
                    for (int d : FEW) {
                        like("eaters " + a + " " + b + " " + c + " " + d, x.eaters(a, b, c, d), o.eaters(a, b, c, d));
                        for (int e : FEW) {
                            like("copy " + a + " " + b + " " + c + " " + d + " " + e, x.copy(a, b, c, d, e),
                                o.copy(a, b, c, d, e));
                        }
                    }
                }
            }
            same();
        }
    }

    private static void same() {
        for (int what = 0; what < 8; what++) {
            like("count " + what, x.count(what), o.count(what));
        }
        for (int e = 0; e < 5; e++) {
            for (int what = 0; what < 6; what++) {
                like("told " + e + " " + what, x.told(e, what), o.told(e, what));
            }
        }
        for (int s = 0; s < 4; s++) {
            like("supper by sheet " + s, x.supper(0, s, 0), o.supper(0, s, 0));
            like("eaten by sheet " + s, x.eaten(s, -1), o.eaten(s, -1));
            like("orders of sheet " + s, x.plates(s, 1), o.plates(s, 1));
        }
    }

    /** 512 of the dearest calls on one object still end soon. */
    private static void theDearestCalls() {
        begin(3);
        for (int e = 0; e < 5; e++) {
            x.eater(e, 912, 1);
        }
        int first = x.best(4, -1);
        for (int i = 0; i < 490; i++) {
            like("best, call " + i, x.best(4, -1), first);
        }
    }
}
