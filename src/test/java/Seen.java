/** All that can be seen of an object without changing it, as one text. */
final class Seen {
    private Seen() {
    }

    static String of(FirstOne x) {
        StringBuilder s = new StringBuilder();
        for (int what = 0; what < 8; what++) {
            s.append(x.count(what)).append(' ');
        }
        for (int e = 0; e < 5; e++) {
            for (int what = 0; what < 6; what++) {
                s.append(x.told(e, what)).append(' ');
            }
        }
        for (int k = 0; k < 12; k++) {
            s.append(x.ready(k)).append(' ');
        }
        s.append(x.supper(1, 0, 0)).append(' ').append(x.supper(2, 0, 0)).append(' ');
        for (int sheet = 0; sheet < 4; sheet++) {
            s.append(x.supper(0, sheet, 0)).append(' ').append(x.eaten(sheet, -1)).append(' ');
            s.append(x.plates(sheet, 1)).append(' ');
        }
        return s.toString();
    }

    static void same(String what, String before, FirstOne x) {
        String now = of(x);
        Due.holds(what + " changed nothing: " + before + " became " + now, before.equals(now));
    }
}
