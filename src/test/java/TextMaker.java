/** Writes texts by the grammar of the document, and spoils some of them. */
final class TextMaker {
    private static final String[] NAMES = {"cake", "minute", "had", "want", "eater", "late"};
    private static final String[] PIECES = {"(", ")", ";", "+", "-", "*", "<", "=", "not ", "or ", "and ", "takes ",
        "hunger ", "worth ", "cake ", "late ", "12345", "1234", "x", "nota ", "@", "\t", "A", "((", "not not ", "--"};

    private final Dice dice;
    private StringBuilder s;

    TextMaker(Dice dice) {
        this.dice = dice;
    }

    String text() {
        for (int tries = 0; tries < 50; tries++) {
            s = new StringBuilder();
            int size = dice.between(0, 3);
            key("takes");
            e(size);
            s.append(';');
            key("hunger");
            e(size);
            s.append(';');
            key("worth");
            e(size);
            s.append(';');
            blank(false);
            if (s.length() <= 160) {
                return s.toString();
            }
        }
        return "takes 3;hunger 2;worth 9;";
    }

    String spoiled() {
        StringBuilder t = new StringBuilder(text());
        int times = dice.between(1, 2);
        for (int i = 0; i < times; i++) {
            int at = dice.upTo(t.length() + 1);
            switch (dice.upTo(4)) {
                case 0:
                    t.insert(at, PIECES[dice.upTo(PIECES.length)]);
                    break;
                case 1:
                    t.delete(at, Math.min(t.length(), at + dice.between(1, 5)));
                    break;
                case 2:
                    t.setLength(at);
                    break;
                default:
                    if (at < t.length()) {
                        t.setCharAt(at, (char) dice.upTo(256));
                    }
                    break;
            }
        }
        if (t.length() > 160) {
            t.setLength(160);
        }
        return t.toString();
    }

    private void key(String word) {
        blank(false);
        s.append(word);
        blank(true);
    }

    private void blank(boolean must) {
        if (must || dice.oneIn(12)) {
            s.append(dice.oneIn(6) ? '\n' : ' ');
        }
    }

    private void e(int size) {
        and(size);
        while (size > 0 && dice.oneIn(7)) {
            s.append(' ');
            key("or");
            and(size - 1);
        }
    }

    private void and(int size) {
        not(size);
        while (size > 0 && dice.oneIn(7)) {
            s.append(' ');
            key("and");
            not(size - 1);
        }
    }

    private void not(int size) {
        if (size > 0 && dice.oneIn(7)) {
            key("not");
            not(size);
            return;
        }
        sum(size);
        if (size > 0 && dice.oneIn(5)) {
            s.append(dice.oneIn(2) ? '<' : '=');
            sum(size - 1);
        }
    }

    private void sum(int size) {
        term(size);
        while (size > 0 && dice.oneIn(2)) {
            s.append(dice.oneIn(2) ? '+' : '-');
            term(size - 1);
        }
    }

    private void term(int size) {
        one(size);
        while (size > 0 && dice.oneIn(4)) {
            s.append('*');
            one(size - 1);
        }
    }

    private void one(int size) {
        blank(false);
        if (size > 0 && dice.oneIn(7)) {
            s.append('-');
            one(size);
        } else if (size > 0 && dice.oneIn(4)) {
            s.append('(');
            e(size);
            s.append(')');
        } else if (dice.oneIn(2)) {
            s.append(NAMES[dice.upTo(NAMES.length)]);
        } else if (dice.oneIn(8)) {
            s.append(dice.upTo(10000));
        } else {
            s.append(dice.upTo(20));
        }
        blank(false);
    }
}
