/** The same drawn calls to FirstOne and to the Oracle: all answers are alike. */
public final class OracleTest {
    private static final int RUNS = 700;

    private final FirstOne x = new FirstOne();
    private final Oracle o = new Oracle();
    private final Dice d;
    private final TextMaker texts;
    private final int run;
    private int calls = 0;

    private OracleTest(int run) {
        this.run = run;
        d = new Dice(run);
        texts = new TextMaker(d);
    }

    public static void main(String[] args) {
        for (int run = 0; run < RUNS && Due.wrong() == 0; run++) {
            new OracleTest(run).play();
        }
        manyTexts();
        Due.close("OracleTest");
    }

    private void like(String call, long got, long due) {
        calls++;
        Due.is("run " + run + ", call " + calls + ", " + call, got, due);
    }

    private int of(int low, int high) {
        return d.oneIn(40) ? d.odd() : d.between(low, high);
    }

    private void play() {
        if (!d.oneIn(4)) {
            give(texts.text());
            int t = d.upTo(2);
            like("force " + t, x.force(t), o.force(t));
        }
        int n = d.upTo(6);
        for (int i = 0; i < n; i++) {
            comes();
        }
        while (calls < 505) {
            call(d.upTo(40));
        }
    }

    private void give(String text) {
        if (calls + text.length() + 1 > 500) {
            return;
        }
        for (int i = 0; i < text.length(); i++) {
            int c = text.charAt(i);
            like("feed " + c, x.feed(c), o.feed(c));
        }
        like("text of " + text, x.text(), o.text());
    }

    private void comes() {
        int kind = of(0, 5);
        int what = d.oneIn(20) ? d.odd() : 100 * d.upTo(10) + d.upTo(13);
        int pace = of(1, 20);
        like("eater " + kind + " " + what + " " + pace, x.eater(kind, what, pace), o.eater(kind, what, pace));
    }

    private int answer() {
        return d.oneIn(3) ? d.between(-1, 4) : d.oneIn(30) ? d.odd() : 10 * d.between(1, 3) + d.between(0, 5);
    }

    private void call(int which) {
        if (which < 12) {
            table(which);
        } else if (which < 24) {
            suppers(which);
        } else {
            rows(which);
        }
    }

    private void table(int which) {
        int a = of(-1, 5);
        int b = of(-1, 5);
        int c = of(-1, 13);
        switch (which) {
            case 0:
            case 1:
            case 2:
            case 3:
                like("set " + a + " " + b + " " + c, x.set(a, b, c), o.set(a, b, c));
                break;
            case 4:
                if (d.oneIn(4)) {
                    comes();
                }
                break;
            case 5:
                c = of(-1, 6);
                like("told " + a + " " + c, x.told(a, c), o.told(a, c));
                break;
            case 6:
                like("ready " + c, x.ready(c), o.ready(c));
                break;
            case 7:
                if (d.oneIn(3)) {
                    give(d.oneIn(2) ? texts.spoiled() : texts.text());
                } else if (d.oneIn(3)) {
                    c = d.odd();
                    like("feed " + c, x.feed(c), o.feed(c));
                }
                break;
            case 8:
                a = of(-1, 6);
                like("force " + a, x.force(a), o.force(a));
                break;
            case 9:
                if (d.oneIn(5)) {
                    like("image", x.image(), o.image());
                } else if (d.oneIn(3)) {
                    like("back", x.back(), o.back());
                }
                break;
            default:
                a = of(-1, 8);
                like("count " + a, x.count(a), o.count(a));
                break;
        }
    }

    private void suppers(int which) {
        int a = of(-1, 4);
        int b = of(0, 3);
        int w = answer();
        switch (which) {
            case 12:
            case 13:
            case 14:
                like("supper " + a + " " + b + " " + w, x.supper(a, b, w), o.supper(a, b, w));
                break;
            case 15:
                a = of(0, 13);
                like("heap " + a + " " + w, x.heap(a, w), o.heap(a, w));
                break;
            case 16:
                if (d.oneIn(4)) {
                    a = of(0, d.oneIn(6) ? 5 : 2);
                    w = of(-2, 4);
                    like("best " + a + " " + w, x.best(a, w), o.best(a, w));
                }
                break;
            case 17:
                w = of(0, 2);
                like("keep " + w, x.keep(w), o.keep(w));
                break;
            case 18:
                like("second", x.second(), o.second());
                break;
            case 19:
                like("leave", x.leave(), o.leave());
                break;
            case 20:
                a = d.any();
                like("drawn " + a, x.drawn(a), o.drawn(a));
                break;
            case 21:
                a = d.odd();
                b = of(0, 21);
                w = of(0, 1);
                like("chance " + a + " " + b + " " + w, x.chance(a, b, w), o.chance(a, b, w));
                break;
            case 22:
                plates();
                break;
            default:
                eaten();
                break;
        }
    }

    private void plates() {
        int s = of(0, 3);
        if (d.oneIn(2)) {
            int way = of(1, 3);
            like("film " + s + " " + way, x.film(s, way), o.film(s, way));
        }
        int w = of(0, 1);
        like("plates " + s + " " + w, x.plates(s, w), o.plates(s, w));
    }

    private void eaten() {
        int s = of(0, 3);
        int n = o.count(0);
        if (!d.oneIn(4)) {
            like("sheet", x.sheet(s, 1, n), o.sheet(s, 1, n));
            for (int e = 0; e < n; e++) {
                int last = d.oneIn(5) ? d.between(-1, 61) : Math.min(60, o.supper(1, 0, 30 + e));
                like("cell", x.cell(s, e, last), o.cell(s, e, last));
            }
        }
        int e = of(-1, 5);
        like("eaten " + s + " " + e, x.eaten(s, e), o.eaten(s, e));
    }

    private void rows(int which) {
        int s = of(0, 3);
        int t = of(0, 3);
        int a = of(-1, 8);
        int b = of(-1, 8);
        int c = of(-1, 5);
        switch (which) {
            case 24:
            case 25:
            case 26:
                a = of(-1, 2);
                c = d.oneIn(8) ? of(-2, 42) : of(0, 12);
                like("sheet " + s + " " + a + " " + c, x.sheet(s, a, c), o.sheet(s, a, c));
                break;
            case 27:
            case 28:
            case 29:
            case 30:
            case 31:
            case 32:
                c = d.oneIn(4) ? of(-200, 300) : of(-1, 20);
                like("cell " + s + " " + a + " " + c, x.cell(s, a, c), o.cell(s, a, c));
                break;
            case 33:
            case 34:
            case 35:
                like("copy " + s + " " + a + " " + t + " " + b + " " + c, x.copy(s, a, t, b, c), o.copy(s, a, t, b, c));
                break;
            case 36:
            case 37:
                b = of(0, 2);
                like("eaters " + s + " " + b + " " + a + " " + c, x.eaters(s, b, a, c), o.eaters(s, b, a, c));
                break;
            default:
                c = of(-1, 6);
                like("taken " + a + " " + c, x.taken(a, c), o.taken(a, c));
                break;
        }
    }

    /** Texts by the grammar and spoiled ones: number or fault as the Oracle says. */
    private static void manyTexts() {
        Dice d = new Dice(4711);
        TextMaker maker = new TextMaker(d);
        String[] bits = {"(", "-", "not ", "1", "late", ")", "+", "<", " ", "or ", ";"};
        for (int i = 0; i < 20000; i++) {
            StringBuilder s = new StringBuilder();
            if (i % 2 == 0) {
                s.append("takes ");
                int n = d.between(1, 14);
                for (int b = 0; b < n; b++) {
                    s.append(bits[d.upTo(bits.length)]);
                }
                s.append(";hunger 1;worth 1;");
            } else {
                s.append(maker.spoiled());
            }
            FirstOne x = new FirstOne();
            Oracle o = new Oracle();
            for (int c = 0; c < s.length(); c++) {
                x.feed(s.charAt(c));
                o.feed(s.charAt(c));
            }
            int due = o.text();
            Due.is("7: text " + s, x.text(), due);
            x.force(1);
            o.force(1);
            for (int k = 0; k < 8; k++) {
                Due.is("7: cake " + k + " by " + s, x.ready(k), o.ready(k));
            }
        }
    }
}
