/** Promises 6 to 8: feed, text, force, and what texts come to. */
public final class TextTest {
    public static void main(String[] args) {
        feed();
        values();
        bounds();
        namesOfHunger();
        namesOfWorth();
        faults();
        openOnes();
        blanks();
        text();
        afterLonger();
        force();
        Due.close("TextTest");
    }

    private static void feed() {
        FirstOne x = new FirstOne();
        Due.is("6: below", x.feed(-1), FirstOne.BAD);
        Due.is("6: above", x.feed(256), FirstOne.BAD);
        Due.is("6: far", x.feed(Integer.MIN_VALUE), FirstOne.BAD);
        Due.is("6: far", x.feed(Integer.MAX_VALUE), FirstOne.BAD);
        Due.is("6: nothing came", x.count(4), 0);
        for (int i = 1; i <= 160; i++) {
            Due.is("6: how many", x.feed(i % 2 == 0 ? 0 : 255), i);
        }
        Due.is("6: full", x.feed(0), FirstOne.FULL);
        Due.is("6: BAD ahead of FULL", x.feed(256), FirstOne.BAD);
        Due.is("6: still so many", x.count(4), 160);
        Due.is("6: a byte that begins no token", x.text(), -100);
        Due.is("6: the tape is empty", x.count(4), 0);
        Due.is("6: the first again", x.feed(32), 1);
    }

    /** An E of 1 .. 20 shows in how long cake 0 takes. */
    private static void value(String e, int due) {
        FirstOne x = new FirstOne();
        int n = Due.read(x, "takes " + e + ";hunger 1;worth 1;");
        Due.is("7: reads " + e, n, 1);
        x.force(n);
        Due.is("7: " + e, x.ready(0), due);
    }

    private static void values() {
        value("7", 7);
        value("0013", 13);
        value("2+3*4", 14);
        value("(2+3)*4", 20);
        value("20-3-4", 13);
        value("20-(3-4)", 20);
        value("3*2*2+1", 13);
        value("--6", 6);
        value("10--3", 13);
        value("-3+10", 7);
        value("-(3-10)", 7);
        value("-2*-3", 6);
        value("5+(3<4)", 6);
        value("5+(4<4)", 5);
        value("5+(4=4)", 6);
        value("5+(3=4)", 5);
        value("5+(-1<0)", 6);
        value("5+(2<3*1)", 6);
        value("5+(2=1+1)", 6);
        value("7+(not 0)", 8);
        value("7+(not 5)", 7);
        value("7+(not not 5)", 8);
        value("7+(2 or 0)", 8);
        value("7+(0 or 2)", 8);
        value("7+(0 or 0)", 7);
        value("7+(2 and 4)", 8);
        value("7+(2 and 0)", 7);
        value("7+(0 and 2)", 7);
        value("(12)", 12);
        value("5+(1 or 0 and 0)", 6);
        value("5+(0 and 0 or 1)", 6);
        value("5+(not 1 or 1)", 6);
        value("5+(not 0 and 0)", 5);
        value("5+(not 1<0)", 6);
        value("5+(not 2=1)", 6);
        value("5+(0 or 0 or 3)", 6);
        value("5+(3 and 3 and 3)", 6);
        value("5+(3 and 1<2 and 2=2)", 6);
        value("4-late+cake", 4);
        value("3+(9999*9999*9999*9999=" + written(9999 * 9999 * 9999 * 9999) + ")", 4);
        value("3+(9999*9999*9999=" + written(9999 * 9999 * 9999) + ")", 4);
        value("3+(9999*9999*9999<0)", 3 + (9999 * 9999 * 9999 < 0 ? 1 : 0));
        value("3+(2000*2000*2000<0)", 3 + (2000 * 2000 * 2000 < 0 ? 1 : 0));
        value("3+(8192*8192*32<0)", 4);
        value("3+(8192*8192*32-1<0)", 3);
    }

    /** An int, written with numbers of four digits at most. */
    private static String written(int v) {
        int n = Math.abs(v);
        String text = n / 4096 / 4096 + "*4096*4096+" + n / 4096 % 4096 + "*4096+" + n % 4096;
        return v < 0 ? "-(" + text + ")" : text;
    }

    private static void bounds() {
        value("0", 1);
        value("1", 1);
        value("-9999", 1);
        value("20", 20);
        value("21", 20);
        value("9999", 20);
        FirstOne x = new FirstOne();
        x.set(0, 0, 1);
        x.eater(0, 0, 1);
        x.force(Due.read(x, "takes 1;hunger 1;worth 9999;"));
        Due.is("7: worth 99 at most", x.supper(1, 0, 0), -99);
        x.force(Due.read(x, "takes 1;hunger 1;worth 98;"));
        Due.is("7: worth 98", x.supper(1, 0, 0), -98);
        x.force(Due.read(x, "takes 1;hunger 1;worth -9;"));
        Due.is("7: worth 0 at least", x.supper(1, 0, 0), 0);
        x.set(3, 0, 1);
        x.set(0, 0, 0);
        x.force(Due.read(x, "takes 1;hunger 9999;worth 1;"));
        Due.is("7: hunger 99 at most", x.supper(1, 0, 0), 60 * 99);
        x.force(Due.read(x, "takes 1;hunger -9;worth 1;"));
        Due.is("7: hunger 0 at least", x.supper(1, 0, 0), 0);
    }

    private static void namesOfHunger() {
        FirstOne x = new FirstOne();
        x.set(0, 0, 1);
        x.eater(0, 2, 5);
        x.force(Due.read(x, "takes 10;hunger (minute<10)+had*2;worth cake*0;"));
        // Minutes 0 .. 9 cost 1, minutes 15 .. 59 cost 2.
        Due.is("7: minute and had in hunger", x.supper(1, 0, 0), 10 + 45 * 2);
        x.force(Due.read(x, "takes 10;hunger cake+late+eater+want;worth 0;"));
        Due.is("7: cake, late, eater are 0, want is 2", x.supper(1, 0, 0), 55 * 2);
    }

    private static void namesOfWorth() {
        FirstOne x = new FirstOne();
        x.set(0, 0, 3);
        x.eater(0, 0, 1);
        x.eater(0, 0, 10);
        // Cakes 0, 1, 2 at 4, 8, 12 by way 1: to 0, 1, 0.
        x.force(Due.read(x, "takes 4;hunger 0;worth cake*10+minute;"));
        Due.is("7: cake and minute in worth", x.supper(1, 0, 0), -(4 + 18 + 32));
        x.force(Due.read(x, "takes 4;hunger 0;worth had*10+eater;"));
        Due.is("7: had and eater in worth", x.supper(1, 0, 0), -(0 + 1 + 10));
        x.set(3, 1, 7);
        x.force(Due.read(x, "takes 4;hunger 0;worth want;"));
        Due.is("7: want in worth", x.supper(1, 0, 0), -7);
        // All to eater 1 by a sheet: begun at 4, 14, 24, late by 0, 6, 12.
        x.sheet(0, 0, 3);
        for (int k = 0; k < 3; k++) {
            x.cell(0, k, 1);
        }
        x.force(Due.read(x, "takes 4;hunger 0;worth late;"));
        Due.is("7: late in worth", x.supper(0, 0, 0), -18);
        x.force(Due.read(x, "takes 4;hunger 0;worth minute;"));
        Due.is("7: the minute in which it is begun", x.supper(0, 0, 0), -42);
    }

    private static void fault(String text, int place) {
        FirstOne x = new FirstOne();
        Due.is("7: fault in " + text, Due.read(x, text), -100 - place);
        Due.is("7: the tape is empty behind " + text, x.count(4), 0);
        Due.is("7: no text more behind " + text, x.count(3), 1);
    }

    private static void faults() {
        fault("", 0);
        fault("   ", 3);
        fault("takes", 5);
        fault("takes 4", 7);
        fault("takes 4 \n ", 10);
        fault("takes 4 ;", 9);
        fault("takes 4;hunger 1;worth 1", 24);
        fault("takes 4;hunger 1;worth", 22);
        fault("hunger 1;takes 4;worth 1;", 0);
        fault("  worth 1;", 2);
        fault("takes 4;worth 1;hunger 1;", 8);
        fault("takes 4;hunger 1;worth 1;;", 25);
        fault("takes 4;hunger 1;worth 1; takes", 26);
        fault("takes 4;hunger 1;worth 1;\t", 25);
        fault("takes ;", 6);
        fault("takes 4 5;", 8);
        fault("takes 4 late;", 8);
        fault("takes 12345;", 6);
        fault("takes 00001;", 6);
        fault("takes 1+12345;", 8);
        fault("takes 4@;", 7);
        fault("takes 4" + (char) 200 + ";", 7);
        fault("takes 4" + (char) 0 + ";", 7);
        fault("takes\t4;", 5);
        fault("takes foo;", 6);
        fault("takes 1+foo;", 8);
        fault("takes lates;", 6);
        fault("takes lat;", 6);
        fault("takes worth;", 6);
        fault("takes or;", 6);
        fault("Takes 4;", 0);
        fault("take 4;", 0);
        fault("takescake;", 0);
        fault("takes 1<2<3;", 9);
        fault("takes 1<2=3;", 9);
        fault("takes 1=2=3;", 9);
        fault("takes 0 and 1<2<3;", 15);
        fault("takes not 1<2<3;", 13);
        fault("takes -not 1;", 7);
        fault("takes 1+not 1;", 8);
        fault("takes 1*not 1;", 8);
        fault("takes 1<not 1;", 8);
        fault("takes +1;", 6);
        fault("takes *1;", 6);
        fault("takes <1;", 6);
        fault("takes 1+;", 8);
        fault("takes 1+*2;", 8);
        fault("takes 1<;", 8);
        fault("takes 1 or;", 10);
        fault("takes 1 and or 2;", 12);
        fault("takes not;", 9);
        fault("takes (1;", 8);
        fault("takes (;", 7);
        fault("takes ();", 7);
        fault("takes (1", 8);
        fault("takes 1);", 7);
        fault("takes 1(2);", 7);
        fault("takes 1 @ ( 12345", 8);
        fault("takes 1,2;", 7);
        fault("takes 3>2;", 7);
    }

    private static void openOnes() {
        value("(((((9)))))", 9);
        fault("takes ((((((9))))));", 11);
        value("5+(not not not not 9)", 6);
        fault("takes 5+(not not not not not 9);", 25);
        value("not not not not not 9", 1);
        fault("takes not not not not not not 9;", 26);
        value("20+-----9", 11);
        fault("takes ------9;", 11);
        fault("takes -(-(-(9)));", 11);
        value("-(-(-9)*-1)", 9);
        value("(-(-(9+10)))", 19);
        fault("takes -(-(-(-9)));", 11);
        fault("takes (-(-(-9)));", 11);
        fault("takes not(not(not(1)));", 17);
        fault("takes not 1<(((((1)))));", 16);
        value("not 1<((((1))))", 1);
        value("not 1 and (((((1)))))", 1);
        value("(1)+(1)+(1)+(1)+(1)+(1)+(1)", 7);
        value("-1+-1+-1+-1+-1+-1+16", 10);
        value("-1*(((((1)))))+9", 8);
        value("-1-(((((1)))))+9", 7);
        value("not 1 or not 1 or not 1 or not 1 or not 1 or not 1 or 1", 1);
        value("9-(((((1-2-3-4)))))", 17);
        fault("takes (((((-1)))));", 11);
        fault("takes (((((not 1)))));", 11);
        fault("takes ((((((", 11);
    }

    private static void blanks() {
        value("2+3", 5);
        value("\n 2 \n\n+  3 \n", 5);
        FirstOne x = new FirstOne();
        Due.is("7: blanks ahead and behind", Due.read(x, " \ntakes\n4;hunger(1);worth-1; \n"), 1);
        Due.is("7: no blank where none must be", Due.read(x, "takes4;hunger1;worth10-late;"), 2);
        Due.is("7: a blank ends a number", Due.read(x, "takes 1 2;"), -108);
        Due.is("7: a blank ends a word", Due.read(x, "takes la te;"), -106);
        Due.is("7: words and numbers touch", Due.read(x, "takes 1or 2and 3;hunger not1;worth 1;"), 3);
    }

    private static void text() {
        FirstOne x = new FirstOne();
        for (int n = 1; n <= 5; n++) {
            Due.is("7: the number", Due.read(x, "takes " + (n + 10) + ";hunger 1;worth 1;"), n);
            Due.is("7: the tape is empty", x.count(4), 0);
            Due.is("7: how many", x.count(3), n + 1);
        }
        x.feed('a');
        x.feed('@');
        Due.is("7: no room", x.text(), FirstOne.FULL);
        Due.is("7: THE TAPE stays", x.count(4), 2);
        Due.is("7: no room, again", x.text(), FirstOne.FULL);
        Due.is("7: still as many", x.count(3), 6);
        for (int n = 5; n >= 1; n--) {
            x.force(n);
            Due.is("7: each is kept", x.ready(0), n + 10);
        }
        x.force(0);
        Due.is("7: text 0 is kept", x.ready(0), 4);
        x = new FirstOne();
        StringBuilder s = new StringBuilder("takes 5");
        while (s.length() < 141) {
            s.append("+0");
        }
        s.append(";hunger 1;worth 1;");
        Due.is("7: bytes of a long text", s.length(), 159);
        Due.is("7: a text of 160 bytes", Due.read(x, s.append(' ').toString()), 1);
        x.force(1);
        Due.is("7: what it tells", x.ready(0), 5);
    }

    /** What a longer tape said behind the place where a shorter one ends is nothing to that one, a FAULT's neither. */
    private static void afterLonger() {
        String[] longer = {"-5", "not 5", "not not 5", "5+2", "5*3", "5-9", "5<4", "5=4", "0 and 0", "0 or 0", "--5 +",
            "-5*(", "not 5 x"};
        for (String e : longer) {
            FirstOne x = new FirstOne();
            x.eater(0, 0, 1);
            x.set(0, 0, 1);
            int first = Due.read(x, "takes 4; hunger 1; worth " + e + ";");
            int then = Due.read(x, "takes 4; hunger 1; worth 7;");
            Due.is("7: behind " + e, then, first < 0 ? 1 : 2);
            x.force(then);
            Due.is("7: worth 7 behind " + e, x.supper(1, 0, 0), -7);
        }
    }

    private static void force() {
        FirstOne x = new FirstOne();
        Due.read(x, "takes 5;hunger 1;worth 1;");
        Due.read(x, "takes 6;hunger 1;worth 1;");
        Due.is("7: a new text is not THE RULE yet", x.ready(0), 4);
        Due.is("8: which was", x.force(2), 0);
        Due.is("8: it is so", x.ready(0), 6);
        Due.is("8: which was", x.force(1), 2);
        Due.is("8: THE RULE", x.count(5), 1);
        String before = Seen.of(x);
        int[] wrong = {-1, 3, 6, Integer.MAX_VALUE, Integer.MIN_VALUE};
        for (int w : wrong) {
            Due.is("8: force " + w, x.force(w), FirstOne.BAD);
        }
        Seen.same("8: force", before, x);
        Due.is("8: the same one", x.force(1), 1);
    }
}
