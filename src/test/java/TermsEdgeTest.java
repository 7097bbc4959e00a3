/**
 * The document's "==== 1", sentence by sentence: the last value that is taken and the first that isn't, at both ends,
 * the empty and the full, ints that wrap around.
 */
public final class TermsEdgeTest {
    private static final int MAX = Integer.MAX_VALUE, MIN = Integer.MIN_VALUE;
    /** 2 to the 31st: as an int the least of all. */
    private static final String LEAST_INT = "8192*8192*32", LAST_INT = "8192*8192*32-1", NOUGHT = "8192*8192*64";

    public static void main(String[] args) {
        minutes();
        cakes();
        pans();
        eaters();
        kindsNumbersWantsPaces();
        eats();
        hungers();
        hungersOfWhoHasHad();
        tape();
        bytes();
        words();
        numbers();
        ints();
        trueOrNot();
        bounds();
        open();
        textsEndTooEarly();
        sixTexts();
        textNought();
        Due.close("TermsEdgeTest");
    }

    // ---- MINUTES 0 .. 59, CAKES 0 .. n less 1, PANS 1 or 2

    /** What one pays who waits from the first minute to the last. */
    private static int waiting(String hunger) {
        FirstOne x = Kitchen.by("1", hunger, "0");
        x.set(0, 0, 0);
        x.eater(0, 1, 1);
        Due.is("MINUTES: how many", x.supper(1, 0, 20), 60);
        return x.supper(1, 0, 0);
    }

    private static void minutes() {
        Due.is("MINUTES: 0 is one", waiting("minute=0"), 1);
        Due.is("MINUTES: 59 is one", waiting("minute=59"), 1);
        Due.is("MINUTES: 60 is none", waiting("minute=60"), 0);
        Due.is("MINUTES: none is below 0", waiting("minute<0"), 0);
        Due.is("MINUTES: each of them", waiting("minute"), 59 * 60 / 2);
        Due.is("MINUTES: sixty", waiting("1"), 60);
        // A cake is begun, and eaten, in a MINUTE behind the last one, if that one eats still.
        FirstOne x = Kitchen.by("20-(cake=4 or cake=5)", "0", "(minute=120)*50+(late=61)*7");
        x.set(0, 0, 6);
        x.set(1, 0, 2);
        x.eater(0, 12, 20);
        Due.is("MINUTES: begun in 120, 61 behind READY", x.supper(1, 0, 0), -57);
        Due.is("MINUTES: eaten in 140", x.supper(1, 0, 30), 140);
    }

    private static void cakes() {
        FirstOne x = new FirstOne();
        Due.is("CAKES: 8 at first", x.ready(7), 32);
        Due.is("CAKES: 8 at first", x.ready(8), FirstOne.BAD);
        x.eater(0, 0, 1);
        x.force(Due.read(x, "takes 1;hunger 1;worth 1;"));
        int was = 8;
        for (int n = 0; n <= 12; n++) {
            Due.is("CAKES: BATTER " + n, x.set(0, 0, n), was);
            Due.is("CAKES: BATTER " + n, x.count(1), n);
            Due.is("CAKES: of " + n + " the last", x.ready(n - 1), n == 0 ? FirstOne.BAD : n);
            Due.is("CAKES: of " + n + " behind the last", x.ready(n), FirstOne.BAD);
            Due.is("CAKES: of " + n + " SERVED", x.count(6), n);
            Due.is("CAKES: of " + n + " given", x.supper(1, 0, 2), n);
            was = n;
        }
        Due.is("CAKES: no 13", x.set(0, 0, 13), FirstOne.BAD);
        Due.is("CAKES: none below 0", x.set(0, 0, -1), FirstOne.BAD);
    }

    private static void pans() {
        FirstOne x = new FirstOne();
        Due.is("PANS: 1 at first", x.count(2), 1);
        Due.is("PANS: not 0", x.set(1, 0, 0), FirstOne.BAD);
        Due.is("PANS: not 3", x.set(1, 0, 3), FirstOne.BAD);
        Due.is("PANS: 2, with nobody at the table", x.set(1, 0, 2), 1);
        Due.is("PANS: 1", x.set(1, 0, 1), 2);
    }

    // ---- EATERS

    private static void eaters() {
        FirstOne x = new FirstOne();
        for (int e = 0; e < 5; e++) {
            Due.is("EATERS: none yet", x.told(e, 0), FirstOne.BAD);
            Due.is("EATERS: numbered from 0", x.eater(0, 0, 1), e);
            Due.is("EATERS: how many", x.count(0), e + 1);
        }
        Due.is("EATERS: 5 at most", x.eater(0, 0, 1), FirstOne.FULL);
        Due.is("EATERS: 5 at most", x.count(0), 5);
        Due.is("EATERS: 4 is one", x.told(4, 4), 1);
        Due.is("EATERS: 5 is none", x.told(5, 4), FirstOne.BAD);
    }

    private static int comes(int kind, int what, int pace) {
        return new FirstOne().eater(kind, what, pace);
    }

    private static void kindsNumbersWantsPaces() {
        for (int kind = -2; kind <= 7; kind++) {
            Due.is("KIND " + kind, comes(kind, 0, 1), kind >= 0 && kind <= 5 ? 0 : FirstOne.BAD);
        }
        for (int number = -1; number <= 10; number++) {
            for (int want = 0; want < 100; want++) {
                int what = 100 * number + want;
                boolean so = number >= 0 && number <= 9 && want <= 12;
                Due.is("NUMBER, WANT " + what, comes(5, what, 20), so ? 0 : FirstOne.BAD);
            }
        }
        for (int pace = -1; pace <= 22; pace++) {
            Due.is("PACE " + pace, comes(0, 912, pace), pace >= 1 && pace <= 20 ? 0 : FirstOne.BAD);
        }
        FirstOne x = new FirstOne();
        x.eater(0, 405, 7);
        int[][] sets = {{2, 0, 4}, {2, 9, 0}, {3, 0, 5}, {3, 12, 0}, {4, 1, 7}, {4, 20, 1}};
        for (int[] s : sets) {
            Due.is("NUMBER, WANT, PACE at either end " + s[0] + " " + s[1], x.set(s[0], 0, s[1]), s[2]);
            Due.is("NUMBER, WANT, PACE at either end " + s[0] + " " + s[1], x.told(0, s[0]), s[1]);
        }
        int[][] wrong = {{2, -1}, {2, 10}, {3, -1}, {3, 13}, {4, 0}, {4, 21}};
        for (int[] w : wrong) {
            Due.is("NUMBER, WANT, PACE beyond " + w[0] + " " + w[1], x.set(w[0], 0, w[1]), FirstOne.BAD);
        }
    }

    private static void eats(int kind, int... due) {
        int[] paces = {1, 2, 3, 4, 5, 6, 7, 19, 20};
        for (int i = 0; i < paces.length; i++) {
            FirstOne x = Kitchen.by("4", "0", "0");
            x.set(0, 0, 1);
            x.eater(kind, 0, paces[i]);
            Due.is("EATS of KIND " + kind + ", PACE " + paces[i], x.told(0, 1), due[i]);
            Due.is("EATS at a SUPPER, KIND " + kind + ", PACE " + paces[i], x.supper(1, 0, 30), 4 + due[i]);
        }
    }

    private static void eats() {
        eats(0, 1, 2, 3, 4, 5, 6, 7, 19, 20);
        // Half, cut, and 1 at least.
        eats(1, 1, 1, 1, 2, 2, 3, 3, 9, 10);
        eats(2, 1, 2, 3, 4, 5, 6, 7, 19, 20);
        // 1 less than half, and 1 at least.
        eats(3, 1, 1, 1, 1, 1, 2, 2, 8, 9);
        eats(4, 3, 4, 5, 6, 7, 8, 9, 21, 22);
        eats(5, 2, 4, 6, 8, 10, 12, 14, 38, 40);
    }

    private static void hungers(int number, String hunger, int... due) {
        for (int kind = 0; kind < 6; kind++) {
            FirstOne x = Kitchen.by("1", hunger, "0");
            x.set(0, 0, 0);
            x.eater(kind, 100 * number + 1, 1);
            Due.is("HUNGERS of KIND " + kind + " by " + hunger, x.told(0, 5), due[kind]);
            Due.is("HUNGERS at a SUPPER, KIND " + kind + " by " + hunger, x.supper(1, 0, 0), 60 * due[kind]);
        }
    }

    private static void hungers() {
        hungers(0, "0", 0, 0, 0, 0, 0, 0);
        hungers(9, "0", 0, 9, 0, 18, 0, 0);
        hungers(0, "1", 1, 1, 1, 2, 0, 1);
        hungers(0, "2", 2, 2, 2, 4, 1, 2);
        hungers(1, "3", 3, 4, 3, 8, 1, 3);
        hungers(1, "4", 4, 5, 4, 10, 2, 4);
        hungers(1, "5", 5, 6, 5, 12, 2, 5);
        hungers(1, "6", 6, 7, 6, 14, 3, 5);
        // 99 binds what hunger tells, not what a QUICK or a GREEDY one makes of it.
        hungers(9, "98", 98, 107, 98, 214, 49, 5);
        hungers(9, "99", 99, 108, 99, 216, 49, 5);
        hungers(9, "100", 99, 108, 99, 216, 49, 5);
        hungers(9, "-1", 0, 9, 0, 18, 0, 0);
    }

    /** COST of two cakes, in minutes 4 and 8, for one of a KIND and then for one who wants none. */
    private static int waitsOn(int kind, int pace, String hunger) {
        FirstOne x = Kitchen.by("4", hunger, "0");
        x.set(0, 0, 2);
        x.eater(kind, 9, pace);
        x.eater(0, 0, 1);
        return x.supper(1, 0, 0);
    }

    private static void hungersOfWhoHasHad() {
        // Waits in 0 .. 3 and, 1 above the least, in 5 .. 7; in 8 .. 59 the least is 1, too.
        Due.is("HUNGERS: an EATER", waitsOn(0, 1, "3"), 4 * 3 + 3 * 3 + 52 * 3);
        Due.is("HUNGERS: POLITE, as many as the least, 1 above it", waitsOn(2, 1, "3"), 4 * 3 + 52 * 3);
        // Eats 3 minutes: waits in 7, too.
        Due.is("HUNGERS: SERVING, half of these, cut", waitsOn(4, 1, "3"), 4 + 52);
        Due.is("HUNGERS: GREEDY, having had none, one", waitsOn(3, 1, "3"), 4 * 6 + 55 * 3);
        Due.is("HUNGERS: SMALL", waitsOn(5, 1, "6"), 4 * 5 + 2 * 5 + 52 * 5);
        Due.is("HUNGERS: QUICK", waitsOn(1, 1, "99"), 59 * 99);
    }

    // ---- THE TAPE and its TOKENS

    private static void tape() {
        FirstOne x = new FirstOne();
        Due.is("THE TAPE: empty", x.count(4), 0);
        Due.is("THE TAPE: an empty one is no TEXT", x.text(), -100);
        for (int i = 1; i <= 160; i++) {
            Due.is("THE TAPE: how many", x.feed(' '), i);
        }
        Due.is("THE TAPE: 160 at most", x.feed(' '), FirstOne.FULL);
        Due.is("THE TAPE: 160 at most", x.count(4), 160);
        Due.is("THE TAPE: all blank, it ends too early", x.text(), -260);
        Due.is("THE TAPE: empty by a FAULT", x.count(4), 0);
        Due.is("THE TAPE: empty again", x.text(), -100);
        StringBuilder s = new StringBuilder("takes 10");
        while (s.length() < 142) {
            s.append("+0");
        }
        s.append(";hunger 1;worth 1;");
        Due.is("THE TAPE: a TEXT of all 160", s.length(), 160);
        x = new FirstOne();
        Due.is("THE TAPE: a TEXT of all 160", Due.read(x, s.toString()), 1);
        Due.is("THE TAPE: empty by a TEXT", x.count(4), 0);
        x.force(1);
        Due.is("THE TAPE: what it tells", x.ready(0), 10);
        s.setCharAt(159, '?');
        Due.is("THE TAPE: a FAULT in the last byte", read(s.toString()), -259);
        s.setCharAt(159, ' ');
        Due.is("THE TAPE: the last sign is missing", read(s.toString()), -260);
        s.setLength(0);
        while (s.length() < 160) {
            s.append('a');
        }
        Due.is("THE TAPE: a WORD of 160", read(s.toString()), -100);
        s.setLength(0);
        s.append("takes ");
        while (s.length() < 160) {
            s.append('9');
        }
        Due.is("THE TAPE: a NUMBER of 154", read(s.toString()), -106);
    }

    private static int read(String text) {
        return Due.read(new FirstOne(), text);
    }

    private static boolean oneOf(String signs, int b) {
        return signs.indexOf(b) >= 0;
    }

    /** Each of the 256 bytes at five places. */
    private static void bytes() {
        for (int b = 0; b < 256; b++) {
            char c = (char) b;
            boolean blank = b == 32 || b == 10;
            boolean digit = b >= 48 && b <= 57;
            Due.is("byte " + b + " ahead", read(c + "takes 4;hunger 1;worth 1;"), blank ? 1 : -100);
            Due.is("byte " + b + " behind", read("takes 4;hunger 1;worth 1;" + c), blank ? 1 : -125);
            Due.is("byte " + b + " for an E", read("takes " + c + ";hunger 1;worth 1;"),
                digit ? 1 : blank || oneOf("(-", b) ? -107 : -106);
            Due.is("byte " + b + " behind an E", read("takes 4" + c + ";hunger 1;worth 1;"),
                digit || blank ? 1 : oneOf(";+-*<=", b) ? -108 : -107);
            Due.is("byte " + b + " between two", read("takes 4" + c + "5;hunger 1;worth 1;"),
                digit || oneOf("+-*<=", b) ? 1 : blank || b == ';' ? -108 : -107);
        }
    }

    private static void words() {
        String[] names = {"cake", "minute", "had", "want", "eater", "late"};
        for (String name : names) {
            String half = name.substring(0, name.length() - 1);
            Due.is("NAME " + name, read("takes " + name + ";hunger " + name + ";worth " + name + ";"), 1);
            for (char c = 'a'; c <= 'z'; c++) {
                Due.is("NAME " + name + c, read("takes " + name + c + ";hunger 1;worth 1;"), -106);
                Due.is("NAME " + c + name, read("takes 1*" + c + name + ";hunger 1;worth 1;"), -108);
            }
            Due.is("NAME " + name + ", a letter less", read("takes " + half + ";hunger 1;worth 1;"), -106);
            Due.is("NAME " + name + " for a KEY", read(name + " 4;hunger 1;worth 1;"), -100);
        }
        String[] keys = {"takes", "hunger", "worth", "or", "and"};
        for (char c = 'a'; c <= 'z'; c++) {
            Due.is("WORD " + c, read("takes " + c + ";hunger 1;worth 1;"), -106);
            Due.is("KEY takes" + c, read("takes" + c + " 4;hunger 1;worth 1;"), -100);
            Due.is("KEY or" + c, read("takes 1 or" + c + " 1;hunger 1;worth 1;"), -108);
            Due.is("KEY and" + c, read("takes 1 and" + c + " 1;hunger 1;worth 1;"), -108);
            Due.is("KEY not" + c, read("takes not" + c + " 1;hunger 1;worth 1;"), -106);
        }
        for (String key : keys) {
            Due.is("KEY " + key + " for a NAME", read("takes " + key + ";hunger 1;worth 1;"), -106);
            Due.is("KEY " + key + " behind a sign", read("takes 1+" + key + ";hunger 1;worth 1;"), -108);
        }
        Due.is("KEY hunger, a letter more", read("takes 4;hungers 1;worth 1;"), -108);
        Due.is("KEY worth, a letter less", read("takes 4;hunger 1;wort 1;"), -117);
        Due.is("KEY and, a letter less", read("takes 1 an 1;hunger 1;worth 1;"), -108);
        Due.is("WORDS a .. z, no great ones", read("takes Cake;hunger 1;worth 1;"), -106);
        Due.is("WORDS a .. z, no great ones", read("takes lateE;hunger 1;worth 1;"), -110);
        Due.is("WORDS end at a digit", read("takes 1or 1;hunger 1;worth 1;"), 1);
        Due.is("WORDS end at a digit", read("takes late4;hunger 1;worth 1;"), -110);
    }

    private static void value(String e, int due) {
        Due.is("E " + e, Kitchen.by(e, "1", "1").ready(0), due);
    }

    private static void numbers() {
        value("0009", 9);
        value("9", 9);
        value("9999-9990", 9);
        value("0", 1);
        Due.is("NUMBERS of 5 digits", read("takes 00009;hunger 1;worth 1;"), -106);
        Due.is("NUMBERS of 5 digits", read("takes 10000;hunger 1;worth 1;"), -106);
        Due.is("NUMBERS of 5 digits behind a sign", read("takes 9+99999;hunger 1;worth 1;"), -108);
        Due.is("NUMBERS of 4 digits and 1", read("takes 9999 9;hunger 1;worth 1;"), -111);
        Due.is("NUMBERS of 5 digits where none can stand", read("takes 4 12345;hunger 1;worth 1;"), -108);
    }

    // ---- an E is an int

    private static void ints() {
        value("5+(" + LEAST_INT + "<0)", 6);
        value("5+(" + LAST_INT + "<0)", 5);
        value("5+(" + LAST_INT + "+1=" + LEAST_INT + ")", 6);
        value("5+(" + LEAST_INT + "+" + LEAST_INT + "=0)", 6);
        value("5+(-(" + LEAST_INT + ")=" + LEAST_INT + ")", 6);
        value("5+(0-(" + LEAST_INT + ")<0)", 6);
        value("5+(-(" + LAST_INT + ")=" + LEAST_INT + "+1)", 6);
        value(NOUGHT, 1);
        value(NOUGHT + "+5", 5);
        value("5+(9999*9999*9999=" + 9999 * 9999 * 9999 / 1000000 + "*1000*1000+" + 9999 * 9999 * 9999 / 1000 % 1000
            + "*1000+" + 9999 * 9999 * 9999 % 1000 + ")", 6);
        // They are compared as ints, not by what is between them.
        value("5+(" + LEAST_INT + "<1)", 6);
        value("5+(1<" + LEAST_INT + ")", 5);
        value("5+(" + LAST_INT + "<-1)", 5);
        value("5+(-2<" + LAST_INT + ")", 6);
        value("5+(" + LEAST_INT + "=" + LAST_INT + ")", 5);
    }

    private static void trueOrNot() {
        value("5+(-1 or 0)", 6);
        value("5+(0 or -1)", 6);
        value("5+(" + LEAST_INT + " and -1)", 6);
        value("5+(" + NOUGHT + " or 0)", 5);
        value("5+(1 and " + NOUGHT + ")", 5);
        value("5+(not " + NOUGHT + ")", 6);
        value("5+(not " + LEAST_INT + ")", 5);
        value("5+(not -1)", 5);
        value("5+(not 0)", 6);
        value("5+(7 or 7)", 6);
        value("5+(7 and 7)", 6);
        value("5+(not not 7)", 6);
        value("5+(6<7)", 6);
        value("5+(7<7)", 5);
        value("5+(8<7)", 5);
        value("5+(6=7)", 5);
        value("5+(7=7)", 6);
        value("5+(8=7)", 5);
    }

    /** What takes, hunger and worth make of one E. */
    private static void bounds(String e, int takes, int hunger, int worth) {
        FirstOne x = Kitchen.by(e, "1", "1");
        Due.is("takes " + e, x.ready(0), takes);
        x = Kitchen.by("1", e, "1");
        x.eater(0, 1, 1);
        Due.is("hunger " + e, x.told(0, 5), hunger);
        x.set(0, 0, 0);
        Due.is("hunger " + e + ", COST", x.supper(1, 0, 0), 60 * hunger);
        x = Kitchen.by("1", "1", e);
        x.eater(0, 0, 1);
        x.set(0, 0, 1);
        Due.is("worth " + e, x.supper(1, 0, 0), -worth);
    }

    private static void bounds() {
        bounds(LEAST_INT, 1, 0, 0);
        bounds("-9999", 1, 0, 0);
        bounds("-1", 1, 0, 0);
        bounds("0", 1, 0, 0);
        bounds("1", 1, 1, 1);
        bounds("2", 2, 2, 2);
        bounds("19", 19, 19, 19);
        bounds("20", 20, 20, 20);
        bounds("21", 20, 21, 21);
        bounds("98", 20, 98, 98);
        bounds("99", 20, 99, 99);
        bounds("100", 20, 99, 99);
        bounds("9999", 20, 99, 99);
        bounds(LAST_INT, 20, 99, 99);
    }

    // ---- 5 of these are open; a text that ends too early

    private static void fault(String e, int place) {
        Due.is("FAULT in " + e, read("takes " + e + ";hunger 1;worth 1;"), -100 - place);
    }

    private static void open() {
        value("(((((9)))))", 9);
        fault("((((((9))))))", 11);
        value("20+-----9", 11);
        fault("20+------9", 14);
        value("not not not not not 0", 1);
        fault("not not not not not not 0", 26);
        // Of all three together.
        value("not -(not(1))", 1);
        value("not -(not -1)", 1);
        fault("not -(not -(1))", 17);
        fault("not -(not(-1))", 16);
        fault("(((((-1)))))", 11);
        fault("(((((not 1)))))", 11);
        fault("-----(1)", 11);
        fault("not not not not not -1", 26);
        fault("not not not not not (1)", 26);
        // What has ended is open no more: a ( with its ), a - with its ONE, a not with its NOT.
        value("(((((1)))))+(((((2)))))*(((((3)))))", 7);
        value("16*-1*-1*-1*-1*-1*-1", 16);
        value("-1-1+-1-1+-1-1+-1+20", 13);
        value("5+(not 1 or not 1 or not 1 or not 1 or not 1 or not 0)", 6);
        value("20-(-(1)+(((4))))", 17);
        value("not 1<((((1)))) or (((((9<8)))))", 1);
        fault("not 1<(((((1)))))", 16);
        fault("not (((((1)))))", 14);
        // A - between two of them opens nothing.
        value("(((((20-1-1-1-1-1-1-1)))))", 13);
        // Each part, and each TEXT, begins with none open.
        FirstOne x = new FirstOne();
        Due.is("open: a FAULT with five open", Due.read(x, "takes (((((9"), -112);
        Due.is("open: none at first", Due.read(x, "takes (((((9)))));hunger (((((1)))));worth -----1;"), 1);
        Due.is("open: none at first", Due.read(x, "takes (((((9)))));hunger ((((((1))))));worth 1;"), -130);
        Due.is("open: none at first", Due.read(x, "takes 4;hunger 1;worth ------1;"), -128);
    }

    private static void textsEndTooEarly() {
        String text = " takes ( 4 + - cake ) < 9 ;\nhunger not 1 and want = had * 2 or 0 ; worth 99 ; ";
        int last = text.lastIndexOf(';');
        for (int n = 0; n <= last; n++) {
            // Behind a part of a WORD it is a FAULT at its first letter; else the text ends too early.
            int due = n;
            int word = n;
            while (word > 0 && Character.isLetter(text.charAt(word - 1))) {
                word--;
            }
            if (word < n && n < text.length() && Character.isLetter(text.charAt(n))) {
                due = word;
            }
            Due.is("ends too early, " + n + " bytes", read(text.substring(0, n)), -100 - due);
        }
        Due.is("all of it", read(text), 1);
        Due.is("all but the last blank", read(text.substring(0, last + 1)), 1);
        Due.is("one token more", read(text + "0"), -100 - text.length());
    }

    // ---- 6 TEXTS at most

    private static void sixTexts() {
        FirstOne x = new FirstOne();
        Due.is("TEXTS: TEXT 0", x.count(3), 1);
        Due.is("TEXTS: no FAULT makes one", Due.read(x, "takes"), -105);
        for (int t = 1; t <= 5; t++) {
            Due.is("TEXTS: not yet", x.force(t), FirstOne.BAD);
            Due.is("TEXTS: the number", Due.read(x, "takes " + t + ";hunger " + t + ";worth " + t + ";"), t);
            Due.is("TEXTS: how many", x.count(3), t + 1);
        }
        Due.is("TEXTS: THE RULE is TEXT 0 till then", x.count(5), 0);
        for (int i = 0; i < 3; i++) {
            Due.is("TEXTS: a seventh has no room", Due.read(x, "takes 1;hunger 1;worth 1;"), FirstOne.FULL);
            Due.is("TEXTS: THE TAPE stays", x.count(4), 25 * (i + 1));
        }
        Due.is("TEXTS: 6 at most", x.count(3), 6);
        x.eater(0, 1, 1);
        for (int t = 5; t >= 1; t--) {
            Due.is("TEXTS: force " + t, x.force(t), t == 5 ? 0 : t + 1);
            Due.is("TEXTS: takes of " + t, x.ready(0), t);
            Due.is("TEXTS: hunger of " + t, x.told(0, 5), t);
        }
        Due.is("TEXTS: no 6", x.force(6), FirstOne.BAD);
        Due.is("TEXTS: no -1", x.force(-1), FirstOne.BAD);
        FirstOne full = new FirstOne();
        for (int t = 1; t <= 5; t++) {
            Due.read(full, "takes 1;hunger 1;worth 1;");
        }
        Due.is("TEXTS: FULL with an empty TAPE", full.text(), FirstOne.FULL);
        Due.is("TEXTS: FULL ahead of a FAULT", Due.read(full, "?"), FirstOne.FULL);
    }

    /** takes 4 ; hunger 1 ; worth 10 - late ; */
    private static void textNought() {
        FirstOne x = new FirstOne();
        x.eater(0, 0, 4);
        x.set(0, 0, 2);
        int[][] lates = {{4, 0, 10}, {5, 1, 9}, {13, 9, 1}, {14, 10, 0}, {15, 11, 0}, {20, 16, 0}};
        for (int[] l : lates) {
            x.set(4, 0, l[0]);
            Due.is("TEXT 0: late by " + l[1], x.supper(1, 0, 0), -10 - l[2]);
        }
        Due.is("TEXT 0: takes", x.ready(0), 4);
        Due.is("TEXT 0: hunger", x.told(0, 5), 1);
        Due.is("TEXT 0: is THE RULE at first", x.count(5), 0);
    }
}
