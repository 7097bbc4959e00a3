/** Promises 11 to 14: best, keep, second, leave. */
public final class BestTest {
    private static final int NONE_SUCH = -100000;

    public static void main(String[] args) {
        best();
        bestOfLikeOnes();
        bestNotServed();
        bestRefuses();
        keep();
        keepRefuses();
        second();
        leave();
        leaveKeepsNumbers();
        leaveOfLikeOnes();
        Due.close("BestTest");
    }

    private static FirstOne worth(String worth, int batter, int... wants) {
        FirstOne x = new FirstOne();
        x.force(Due.read(x, "takes 4;hunger 0;worth " + worth + ";"));
        x.set(0, 0, batter);
        for (int want : wants) {
            x.eater(0, want, 1);
        }
        return x;
    }

    private static void best() {
        FirstOne x = worth("10*(eater=2)+(cake=0)*5*(eater=1)+had", 5, 0, 0, 0);
        // By turns: 0, 1, 2, 0, 1: worth 0, 0, 10, 1, 1.
        Due.is("11: none is told", x.best(0, -1), -12);
        // Cake 0 to eater 2: worth 10, then 0, 11, 0, 1.
        Due.is("11: cake 0", x.best(1, -1), -22);
        Due.is("11: cake 0's", x.best(1, 0), 2);
        // All three to eater 2: 10, 11, 12, then eater 0, 1: 0, 0.
        Due.is("11: three", x.best(3, -1), -33);
        for (int k = 0; k < 3; k++) {
            Due.is("11: three, each", x.best(3, k), 2);
        }
        // Four to eater 2: 10, 11, 12, 13 and eater 1 none but the last.
        Due.is("11: four", x.best(4, -1), -46);
        Due.is("11: four, the last", x.best(4, 3), 2);
        x = worth("10*(cake=1)*(eater=0)+10*(cake=0)*(eater=1)+(cake=3)*(had=0)*9", 4, 0, 0);
        // Cake 3 is eater 1's by way 1, who should have had none: but then cake 0 is worth less.
        Due.is("11: crosswise", x.best(2, -1), -20);
        Due.is("11: crosswise, cake 0", x.best(2, 0), 1);
        Due.is("11: crosswise, cake 1", x.best(2, 1), 0);
        // Hunger counts too.
        x = new FirstOne();
        x.set(0, 0, 1);
        x.eater(0, 1, 1);
        x.eater(1, 901, 1);
        Due.is("11: the hungrier one", x.best(1, 0), 1);
        Due.is("11: COST", x.best(1, -1), 60 + 4 * 10 - 10);
    }

    private static void bestOfLikeOnes() {
        FirstOne x = worth("5", 4, 0, 0, 0, 0, 0);
        for (int k = 0; k < 4; k++) {
            Due.is("11: all alike", x.best(4, k), 0);
        }
        Due.is("11: all alike", x.best(4, -1), -20);
        // Just one of the first two to eater 1: it is the second one, for cake 0's eater is looked at first.
        x = worth("9*(eater=1)*(had=0)", 2, 0, 0);
        Due.is("11: of like ones the first", x.best(2, 0), 0);
        Due.is("11: of like ones the first", x.best(2, 1), 1);
        Due.is("11: of like ones the first", x.best(2, -1), -9);
    }

    private static void bestNotServed() {
        FirstOne x = new FirstOne();
        x.force(Due.read(x, "takes 20;hunger 0;worth eater;"));
        x.eater(0, 0, 1);
        x.eater(0, 0, 1);
        // READY 20, 40, 60: cakes 2 and 3 aren't served.
        Due.is("11: not served", x.best(4, -1), -2);
        Due.is("11: served", x.best(4, 1), 1);
        Due.is("11: not served: the first", x.best(4, 2), 0);
        Due.is("11: not served: the first", x.best(4, 3), 0);
    }

    private static void bestRefuses() {
        FirstOne x = new FirstOne();
        Due.is("11: nobody there", x.best(0, -1), NONE_SUCH);
        Due.is("11: nobody there", x.best(1, 0), NONE_SUCH);
        x.eater(0, 1, 1);
        x.eater(0, 1, 1);
        x.set(0, 0, 3);
        String before = Seen.of(x);
        int[][] wrong = {{-1, -1}, {4, -1}, {5, -1}, {0, 0}, {1, 1}, {3, 3}, {2, -2}, {Integer.MAX_VALUE, -1},
            {Integer.MIN_VALUE, -1}, {2, Integer.MAX_VALUE}, {2, Integer.MIN_VALUE}};
        for (int[] w : wrong) {
            Due.is("11: best " + w[0] + " " + w[1], x.best(w[0], w[1]), NONE_SUCH);
        }
        Seen.same("11: best", before, x);
        Due.holds("11: as many as there are", x.best(3, 2) != NONE_SUCH);
        x.set(0, 0, 12);
        Due.is("11: five", x.best(5, -1), NONE_SUCH);
        Due.holds("11: four", x.best(4, 3) != NONE_SUCH);
        x.set(0, 0, 0);
        Due.is("11: no cakes", x.best(0, -1), 120);
        Due.is("11: no cakes", x.best(1, -1), NONE_SUCH);
    }

    private static void keep() {
        FirstOne x = worth("late", 4, 0);
        // Each minute of lateness is worth one: READY 4, 8, 12, 16, pace 1.
        // c 1: 0. c 2: 4 + 1 + 4 + 1. c 3: 8 + 5 + 2 + 0. c 4 and more: 12 + 9 + 6 + 3.
        Due.is("12: c", x.keep(0), 4);
        Due.is("12: COST", x.keep(1), -30);
        Due.is("12: of 2", x.heap(2, 0), -10);
        Due.is("12: of 3", x.heap(3, 0), -15);
        x = worth("10-late", 4, 0);
        Due.is("12: at once", x.keep(0), 1);
        Due.is("12: at once", x.keep(1), -40);
        x = worth("7", 4, 0);
        Due.is("12: of like ones the least", x.keep(0), 1);
        x = worth("9*(minute=8)", 12, 0, 0, 0);
        // In minute 8 one cake is begun by c 1, and both of the first row by c 2.
        Due.is("12: two", x.keep(0), 2);
        Due.is("12: two", x.keep(1), -18);
        x = worth("(minute=48)*9", 12, 0, 0);
        Due.is("12: all that there are", x.keep(0), 2);
        x.set(4, 0, 20);
        Due.is("12: each c is tried", x.keep(1), x.heap(x.keep(0), 0));
    }

    private static void keepRefuses() {
        FirstOne x = new FirstOne();
        Due.is("12: nobody there", x.keep(0), 1);
        Due.is("12: nobody there", x.keep(1), 0);
        String before = Seen.of(x);
        int[] wrong = {-1, 2, Integer.MAX_VALUE, Integer.MIN_VALUE};
        for (int w : wrong) {
            Due.is("12: keep " + w, x.keep(w), NONE_SUCH);
        }
        Seen.same("12: keep", before, x);
    }

    private static void second() {
        FirstOne x = new FirstOne();
        Due.is("13: nobody there", x.second(), 0);
        x.eater(0, 1, 1);
        x.eater(0, 1, 1);
        x.set(0, 0, 2);
        // One pan: they wait 4 and 8 minutes; two pans: 4 and 4.
        Due.is("13: two cakes", x.second(), 4);
        x.set(1, 0, 2);
        Due.is("13: whatever the pans are", x.second(), 4);
        Due.is("13: the pans stay", x.count(2), 2);
        Due.is("13: cakes stay as they are", x.ready(1), 4);
        x.set(0, 0, 1);
        Due.is("13: one cake", x.second(), 0);
        x.force(Due.read(x, "takes 4;hunger 0;worth minute;"));
        x.set(0, 0, 2);
        Due.is("13: worth less than nothing", x.second(), -4);
    }

    private static void leave() {
        FirstOne x = new FirstOne();
        Due.is("14: none", x.leave(), FirstOne.NONE);
        x.eater(0, 0, 1);
        Due.is("14: the only one", x.leave(), 0);
        x.eater(1, 905, 1);
        Due.is("14: who is so hungry", x.leave(), 1);
        x.eater(3, 905, 1);
        Due.is("14: who is hungrier still", x.leave(), 2);
        Due.is("14: nobody has gone", x.count(0), 3);
        // By way 1 two would eat: leaving is by way 2 all the same, in which the first two get none.
        x = worth("10", 2, 0, 0, 2);
        Due.is("14: by way 2", x.leave(), 0);
    }

    private static void leaveKeepsNumbers() {
        // Worth tells by the number: without eater 0, eater 1 would be worth 0 as number 0.
        FirstOne x = worth("20*(eater=1)+15*(eater=2)", 1, 9, 9, 9);
        // Way 2 takes the first of like ones: without 0 it is 1's.
        Due.is("14: the others keep their numbers", x.leave(), 0);
        x = worth("20*(eater=0)+15*(eater=1)", 1, 9, 9);
        Due.is("14: the others keep their numbers", x.leave(), 1);
        // The least that any has had is of those who are there: the polite one waits on at no cost.
        x = new FirstOne();
        x.force(Due.read(x, "takes 4;hunger 10*(eater=1)+1;worth 0;"));
        x.set(0, 0, 1);
        x.eater(0, 0, 1);
        x.eater(2, 9, 1);
        // With 0 the polite one has had 1 and the least is 0: no cost from 5 on. Without 0: 11 each minute.
        Due.is("14: without 1 there is no cost", x.leave(), 1);
        x.eater(1, 900, 1);
        // Without 1: 0. Without 0: the polite one is above eater 2, who has had none: 44. Without 2: 44.
        Due.is("14: without 1 there is no cost", x.leave(), 1);
        x = new FirstOne();
        x.force(Due.read(x, "takes 1;hunger 1;worth 0;"));
        x.set(0, 0, 1);
        x.eater(2, 2, 1);
        x.eater(0, 0, 1);
        x.eater(5, 2, 1);
        // Without 0: the small one waits 1 + 58. Without 1: the polite one 1, the small one 60.
        // Without 2: the polite one 1, then nothing, for eater 1 has had none.
        Due.is("14: the least of all who are there", x.leave(), 2);
    }

    private static void leaveOfLikeOnes() {
        FirstOne x = worth("5", 4, 2, 2, 2, 2, 2);
        Due.is("14: of like ones the first", x.leave(), 0);
        x = worth("5", 0, 2, 2);
        Due.is("14: of like ones the first", x.leave(), 0);
    }
}
