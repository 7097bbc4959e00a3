import java.util.Arrays;

/** Cakes out of the pan, the eaters at a table, and who is to have the first one. */
public final class FirstOne {
    public static final int NONE = -1, BAD = -2, STATE = -3, FULL = -4;
    public static final long NO = -4611686018427387904L;

    private static final int NOTHING_THERE = -11, OUTSIDE = -12, UNLIKE = -13, BELOW_NOTHING = -14;
    private static final int NO_SUPPER = -100000;

    private static final int CAKES = 12, EATERS = 5, MINUTES = 60;
    private static final int KINDS = 6, SORTS = 3, MOST_PACE = 20;
    private static final int SHEETS = 4, ITEMS = 40, BYTES = 0, SHORTS = 1;
    private static final int TAPE = 160, TEXTS = 6, PARTS = 3, NAMES = 6, OPEN = 5;
    private static final int FIRST_CAKES = 4, FIRST_WAYS = 625, SEEDS = 20;
    private static final int BY_PLAN = 0, BY_TURNS = 1, BY_HUNGER = 2, BY_LEAST = 3;
    private static final int TAKES = 0, HUNGER = 1, WORTH = 2;

    /** What set() takes for BATTER, PANS, NUMBER, WANT and PACE, at least and at most. */
    private static final int[] LOWEST = {0, 1, 0, 0, 1};
    private static final int[] HIGHEST = {12, 2, 9, 12, 20};

    private static final String FIRST_TEXT = "takes 4 ; hunger 1 ; worth 10 - late ;";

    private final Table table;
    private final Table kept;
    private boolean isKept;
    private final Reader reader;
    private final Texts texts;
    private final Sheets sheets;
    private final Supper evening;

    public FirstOne() {
        table = new Table();
        kept = new Table();
        reader = new Reader();
        texts = new Texts();
        sheets = new Sheets();
        evening = new Supper(table, texts);
        reader.write(FIRST_TEXT);
        if (reader.reads()) {
            texts.add(reader);
        }
    }

    // ---- cakes, eaters

    public int set(int what, int of, int v) {
        if (what < 0 || what >= LOWEST.length || what >= HIGHEST.length) {
            return BAD;
        }
        if (v < LOWEST[what] || v > HIGHEST[what]) {
            return BAD;
        }
        return table.change(what, of, v);
    }

    public int eater(int kind, int what, int pace) {
        return table.seat(kind, what, pace);
    }

    public int told(int eater, int what) {
        if (!table.has(eater)) {
            return BAD;
        }
        switch (what) {
            case 0:
                return table.kind[eater];
            case 1:
                return eatsOf(table.kind[eater], table.pace[eater]);
            case 2:
                return table.number[eater];
            case 3:
                return table.want[eater];
            case 4:
                return table.pace[eater];
            case 5:
                evening.lay(table.pans);
                return evening.hungers(eater, 0);
            default:
                return BAD;
        }
    }

    public int ready(int cake) {
        if (cake < 0 || cake >= table.batter || cake >= CAKES) {
            return BAD;
        }
        evening.bake(table.pans);
        return evening.readyAt[cake];
    }

    // ---- texts

    public int feed(int letter) {
        if (letter < 0 || letter > 255) {
            return BAD;
        }
        return reader.append(letter) ? reader.size : FULL;
    }

    public int text() {
        if (texts.known >= TEXTS) {
            return FULL;
        }
        if (!reader.reads()) {
            return -100 - reader.fault;
        }
        return texts.add(reader);
    }

    public int force(int text) {
        if (text < 0 || text >= texts.known) {
            return BAD;
        }
        int was = table.rule;
        table.rule = text;
        return was;
    }

    // ---- suppers

    public int supper(int way, int sheet, int what) {
        if (way < BY_PLAN || way > BY_LEAST || !evening.isAnswer(what)) {
            return NO_SUPPER;
        }
        if (way == BY_PLAN) {
            if (sheets.isMissing(sheet)) {
                return NO_SUPPER;
            }
            for (int k = 0; k < CAKES; k++) {
                evening.plan[k] = k < sheets.sizeOf(sheet) ? sheets.item(sheet, k) : NONE;
            }
        }
        evening.lay(table.pans);
        evening.run(way);
        return evening.answer(what);
    }

    public int heap(int c, int what) {
        if (c < 1 || c > CAKES || !evening.isAnswer(what)) {
            return NO_SUPPER;
        }
        evening.lay(table.pans);
        evening.heapUp(c);
        evening.run(BY_TURNS);
        return evening.answer(what);
    }

    // ---- what would be best

    public int best(int n, int what) {
        if (n < 0 || n > FIRST_CAKES || n > table.batter || table.seated < 1) {
            return NO_SUPPER;
        }
        if (what < NONE || what >= n) {
            return NO_SUPPER;
        }
        evening.lay(table.pans);
        evening.planTurns();
        int ways = 1;
        for (int k = 0; k < n; k++) {
            ways = ways * table.seated;
        }
        int first = NONE;
        int least = 0;
        for (int i = 0; i < ways && i < FIRST_WAYS; i++) {
            evening.planFirst(n, i);
            evening.run(BY_PLAN);
            if (first == NONE || evening.cost < least) {
                first = i;
                least = evening.cost;
            }
        }
        if (what == NONE) {
            return least;
        }
        evening.planFirst(n, first);
        return evening.plan[what];
    }

    public int keep(int what) {
        if (what != 0 && what != 1) {
            return NO_SUPPER;
        }
        evening.lay(table.pans);
        int first = NONE;
        int least = 0;
        for (int c = 1; c <= CAKES; c++) {
            evening.heapUp(c);
            evening.run(BY_TURNS);
            if (first == NONE || evening.cost < least) {
                first = c;
                least = evening.cost;
            }
        }
        return what == 0 ? first : least;
    }

    public int second() {
        evening.lay(1);
        evening.run(BY_HUNGER);
        int withOne = evening.cost;
        evening.lay(2);
        evening.run(BY_HUNGER);
        return withOne - evening.cost;
    }

    public int leave() {
        evening.lay(table.pans);
        int first = NONE;
        int least = 0;
        for (int e = 0; e < EATERS && e < table.seated; e++) {
            evening.absent = e;
            evening.run(BY_HUNGER);
            if (first == NONE || evening.cost < least) {
                first = e;
                least = evening.cost;
            }
        }
        return first;
    }

    // ---- plates at the end

    public long plates(int sheet, int what) {
        if (sheets.isMissing(sheet) || sheets.sizeOf(sheet) != table.seated) {
            return NO;
        }
        if (what != 0 && what != 1) {
            return NO;
        }
        evening.lay(table.pans);
        return what == 0 ? waysTo(sheet) : ordersTo(sheet);
    }

    public int eaten(int sheet, int eater) {
        if (!sheets.has(sheet) || (eater != NONE && !table.has(eater))) {
            return BAD;
        }
        if (sheets.isMissing(sheet)) {
            return NOTHING_THERE;
        }
        if (sheets.sizeOf(sheet) != table.seated) {
            return BAD;
        }
        evening.lay(table.pans);
        return eater == NONE ? notSo(sheet) : pacesOf(sheet, eater);
    }

    public int film(int sheet, int way) {
        if (!sheets.has(sheet) || way < BY_TURNS || way > BY_LEAST) {
            return BAD;
        }
        evening.lay(table.pans);
        evening.run(way);
        sheets.lay(sheet, BYTES, table.seated);
        for (int e = 0; e < EATERS && e < table.seated; e++) {
            sheets.put(sheet, e, evening.had[e]);
        }
        return table.seated;
    }

    public long drawn(int seed) {
        if (table.seated < 1) {
            return NO;
        }
        evening.lay(table.pans);
        evening.planDrawn(seed);
        evening.run(BY_PLAN);
        return evening.cost;
    }

    public long chance(int seed, int n, int part) {
        if (n < 1 || n > SEEDS || (part != 0 && part != 1) || table.seated < 1) {
            return NO;
        }
        evening.lay(table.pans);
        evening.run(BY_TURNS);
        int line = evening.cost;
        int above = 0;
        for (int i = 0; i < n; i++) {
            evening.planDrawn(seed + i);
            evening.run(BY_PLAN);
            if (evening.cost <= line) {
                above++;
            }
        }
        int both = Math.max(1, commonDivisor(above, n));
        return part == 0 ? above / both : n / both;
    }

    public int image() {
        kept.become(table);
        isKept = true;
        return table.seated;
    }

    public int back() {
        if (!isKept) {
            return STATE;
        }
        table.become(kept);
        return table.seated;
    }

    public int count(int what) {
        switch (what) {
            case 0:
                return table.seated;
            case 1:
                return table.batter;
            case 2:
                return table.pans;
            case 3:
                return texts.known;
            case 4:
                return reader.size;
            case 5:
                return table.rule;
            case 6:
                evening.bake(table.pans);
                return evening.servedCakes();
            case 7:
                return table.wantOfAll();
            default:
                return BAD;
        }
    }

    // ---- the host

    public int sheet(int sheet, int sort, int n) {
        if (!sheets.has(sheet) || sort < NONE || sort >= SORTS) {
            return BAD;
        }
        if (sort == NONE) {
            sheets.lay(sheet, NONE, 0);
            return 1;
        }
        if (n > ITEMS) {
            return BAD;
        }
        if (n < 0) {
            return BELOW_NOTHING;
        }
        sheets.lay(sheet, sort, n);
        return 1;
    }

    public int cell(int sheet, int i, int v) {
        if (!sheets.has(sheet)) {
            return BAD;
        }
        if (sheets.isMissing(sheet)) {
            return NOTHING_THERE;
        }
        if (i < 0 || i >= sheets.sizeOf(sheet)) {
            return OUTSIDE;
        }
        sheets.put(sheet, i, v);
        return 1;
    }

    public int copy(int sheet, int i, int other, int j, int n) {
        if (!sheets.has(sheet) || !sheets.has(other)) {
            return BAD;
        }
        if (sheets.isMissing(sheet) || sheets.isMissing(other)) {
            return NOTHING_THERE;
        }
        if (sheets.sortOf(sheet) != sheets.sortOf(other)) {
            return UNLIKE;
        }
        if (n < 0 || !sheets.spans(sheet, i, n) || !sheets.spans(other, j, n)) {
            return OUTSIDE;
        }
        sheets.move(sheet, i, other, j, n);
        return n;
    }

    public int eaters(int sheet, int sort, int from, int n) {
        if (!sheets.has(sheet) || sort < 0 || sort >= SORTS || n < 0 || n > EATERS) {
            return BAD;
        }
        // A sheet that is missing is of no sort, so it can't be of another one.
        if (sheets.isMissing(sheet)) {
            return NOTHING_THERE;
        }
        if (sheets.sortOf(sheet) != sort) {
            return UNLIKE;
        }
        int came = 0;
        for (int i = 0; i < n; i++) {
            int at = from + 3 * i;
            if (!sheets.spans(sheet, at, 3)) {
                return OUTSIDE;
            }
            int kind = sheets.item(sheet, at);
            int what = sheets.item(sheet, at + 1);
            if (table.seat(kind, what, sheets.item(sheet, at + 2)) >= 0) {
                came++;
            }
        }
        return came;
    }

    public int taken(int eater, int k) {
        if (k < 0 || k >= KINDS) {
            return BAD;
        }
        if (!table.has(eater)) {
            return NOTHING_THERE;
        }
        return isUnder(table.kind[eater], k) ? table.number[eater] : UNLIKE;
    }

    // ---- kinds

    private static int eatsOf(int kind, int pace) {
        int eats = pace;
        switch (kind) {
            case 1:
                eats = pace / 2;
                break;
            case 3:
                eats = pace / 2 - 1;
                break;
            case 4:
                eats = pace + 2;
                break;
            case 5:
                eats = pace * 2;
                break;
            default:
                break;
        }
        return Math.max(1, eats);
    }

    /** What a minute costs one of a kind, v being what the rule tells of it. */
    private static int hungersOf(int kind, int number, int v, int had, int least) {
        int hungers = v;
        switch (kind) {
            case 1:
                hungers = number + v;
                break;
            case 2:
                hungers = had > least ? 0 : v;
                break;
            case 3:
                hungers = had == 0 ? 2 * (number + v) : number + v;
                break;
            case 4:
                hungers = had > least ? 0 : v / 2;
                break;
            case 5:
                hungers = Math.min(5, v);
                break;
            default:
                break;
        }
        return Math.max(0, hungers);
    }

    private static int kindAbove(int kind) {
        switch (kind) {
            case 1:
            case 2:
            case 5:
                return 0;
            case 3:
                return 1;
            case 4:
                return 2;
            default:
                return NONE;
        }
    }

    private static boolean isUnder(int kind, int k) {
        int above = kind;
        for (int i = 0; i < KINDS && above != NONE; i++) {
            if (above == k) {
                return true;
            }
            above = kindAbove(above);
        }
        return false;
    }

    // ---- what plates tell

    private int waysTo(int sheet) {
        int ways = 0;
        for (int way = BY_TURNS; way <= BY_LEAST; way++) {
            evening.run(way);
            boolean so = true;
            for (int e = 0; e < EATERS && e < table.seated; e++) {
                so = so && evening.had[e] == sheets.item(sheet, e);
            }
            if (so) {
                ways |= 1 << way;
            }
        }
        return ways;
    }

    private long ordersTo(int sheet) {
        int left = evening.servedCakes();
        long orders = 1;
        for (int e = 0; e < EATERS && e < table.seated; e++) {
            int had = sheets.item(sheet, e);
            if (had < 0 || had > left) {
                return 0;
            }
            orders = orders * choices(left, had);
            left -= had;
        }
        return left == 0 ? orders : 0;
    }

    /** In how many ways some of so many can be chosen. */
    private static long choices(int of, int some) {
        long ways = 1;
        for (int i = 0; i < some && i < CAKES; i++) {
            ways = ways * (of - i) / (i + 1);
        }
        return ways;
    }

    private int notSo(int sheet) {
        evening.run(BY_TURNS);
        int bits = 0;
        for (int e = 0; e < EATERS && e < table.seated; e++) {
            if (evening.lastTold(e) != sheets.item(sheet, e)) {
                bits |= 1 << e;
            }
        }
        return bits;
    }

    private int pacesOf(int sheet, int eater) {
        int bits = 0;
        for (int pace = 1; pace <= MOST_PACE; pace++) {
            evening.eats[eater] = eatsOf(table.kind[eater], pace);
            evening.run(BY_TURNS);
            if (evening.lastTold(eater) == sheets.item(sheet, eater)) {
                bits |= 1 << pace;
            }
        }
        return bits;
    }

    private static int commonDivisor(int a, int b) {
        int high = a;
        int low = b;
        for (int i = 0; i < 64 && low != 0; i++) {
            int rest = high % low;
            high = low;
            low = rest;
        }
        return high;
    }

    /** The batter, the pans, the rule, and who sits there; an image is a second one. */
    private static final class Table {
        private int batter = 8;
        private int pans = 1;
        private int rule;
        private int seated;
        private final int[] kind = new int[EATERS];
        private final int[] number = new int[EATERS];
        private final int[] want = new int[EATERS];
        private final int[] pace = new int[EATERS];

        private boolean has(int e) {
            return e >= 0 && e < EATERS && e < seated;
        }

        private int change(int what, int e, int v) {
            int was;
            if (what == 0) {
                was = batter;
                batter = v;
                return was;
            }
            if (what == 1) {
                was = pans;
                pans = v;
                return was;
            }
            if (!has(e)) {
                return BAD;
            }
            int[] row = pace;
            if (what == 2) {
                row = number;
            } else if (what == 3) {
                row = want;
            }
            was = row[e];
            row[e] = v;
            return was;
        }

        private int seat(int newKind, int what, int newPace) {
            if (newKind < 0 || newKind >= KINDS || what < 0 || newPace < 1 || newPace > MOST_PACE) {
                return BAD;
            }
            if (what / 100 > 9 || what % 100 > CAKES) {
                return BAD;
            }
            if (seated < 0 || seated >= EATERS) {
                return FULL;
            }
            kind[seated] = newKind;
            number[seated] = what / 100;
            want[seated] = what % 100;
            pace[seated] = newPace;
            seated++;
            return seated - 1;
        }

        private int wantOfAll() {
            int all = 0;
            for (int e = 0; e < EATERS && e < seated; e++) {
                all += want[e];
            }
            return all;
        }

        private void become(Table other) {
            if (other == null) {
                return;
            }
            batter = other.batter;
            pans = other.pans;
            rule = other.rule;
            seated = other.seated;
            for (int e = 0; e < EATERS; e++) {
                kind[e] = other.kind[e];
                number[e] = other.number[e];
                want[e] = other.want[e];
                pace[e] = other.pace[e];
            }
        }
    }

    /** Rows of numbers; all lie in one row of ints, narrowed as they are put there. */
    private static final class Sheets {
        private final int[] sorts = {NONE, NONE, NONE, NONE};
        private final int[] sizes = new int[SHEETS];
        private final int[] items = new int[SHEETS * ITEMS];

        private boolean has(int s) {
            return s >= 0 && s < SHEETS;
        }

        private boolean isMissing(int s) {
            return !has(s) || sorts[s] == NONE;
        }

        private int sortOf(int s) {
            return has(s) ? sorts[s] : NONE;
        }

        private int sizeOf(int s) {
            return has(s) ? sizes[s] : 0;
        }

        private boolean spans(int s, int i, int n) {
            return i >= 0 && n >= 0 && n <= sizeOf(s) && i <= sizeOf(s) - n;
        }

        private int item(int s, int i) {
            return spans(s, i, 1) ? items[s * ITEMS + i] : 0;
        }

        private void put(int s, int i, int v) {
            if (!spans(s, i, 1)) {
                return;
            }
            int narrow = v;
            if (sorts[s] == BYTES) {
                narrow = (byte) v;
            } else if (sorts[s] == SHORTS) {
                narrow = (short) v;
            }
            items[s * ITEMS + i] = narrow;
        }

        private void lay(int s, int sort, int n) {
            if (!has(s) || n < 0 || n > ITEMS) {
                return;
            }
            sorts[s] = sort;
            sizes[s] = n;
            for (int i = 0; i < n; i++) {
                items[s * ITEMS + i] = 0;
            }
        }

        private void move(int s, int i, int other, int j, int n) {
            if (spans(s, i, n) && spans(other, j, n)) {
                System.arraycopy(items, s * ITEMS + i, items, other * ITEMS + j, n);
            }
        }
    }

    /** The tape, and how it is read into code in which a sign stands behind what it joins. */
    private static final class Reader {
        private static final int END = 0, BROKEN = 1, NUMBER = 2, NAME = 3;
        private static final int KEY_TAKES = 100, OR = 103, AND = 104, NOT = 105;
        private static final int WORDS = 12;
        private static final int DENIALS = 2, LEVELS = 5;
        private static final int DIGITS = 4;
        /** Codes: below CODE_NAME a number, then the names, then signs and keys by their tokens. */
        private static final int CODE_NAME = 10000, CODE_SIGN = 20000;
        private static final int OPPOSITE = CODE_SIGN;

        private final int[] tape = new int[TAPE];
        private int size;
        private int next;
        private int token;
        private int tokenAt;
        private int tokenCode;
        private int fault;
        private final int[] code = new int[TAPE];
        private int length;
        private final int[] ends = new int[PARTS];

        private boolean append(int letter) {
            if (size < 0 || size >= TAPE) {
                return false;
            }
            tape[size] = letter;
            size++;
            return true;
        }

        private void write(String words) {
            if (words == null) {
                return;
            }
            for (int i = 0; i < words.length() && i < TAPE; i++) {
                append(words.charAt(i));
            }
        }

        /** Empties the tape; when it was no text, fault tells where. */
        private boolean reads() {
            next = 0;
            length = 0;
            fault = NONE;
            step();
            for (int part = 0; part < PARTS; part++) {
                demand(KEY_TAKES + part);
                reckon(0, 0);
                demand(';');
                ends[part] = length;
            }
            demand(END);
            size = 0;
            return fault == NONE;
        }

        private void demand(int wanted) {
            if (token == wanted) {
                step();
            } else {
                breakOff();
            }
        }

        /** No rule takes a broken token, so all that is open ends without reading on. */
        private void breakOff() {
            if (fault == NONE) {
                fault = tokenAt;
            }
            token = BROKEN;
        }

        private void put(int c) {
            if (length >= 0 && length < TAPE) {
                code[length] = c;
                length++;
            }
        }

        /** Levels 0 .. 4 are E, AND, NOT, SUM, TERM: some of the next level, joined by this one's signs. */
        private void reckon(int level, int open) {
            if (level >= LEVELS) {
                one(open);
                return;
            }
            if (level == DENIALS && token == NOT) {
                if (open >= OPEN) {
                    breakOff();
                    return;
                }
                step();
                reckon(DENIALS, open + 1);
                put(CODE_SIGN + NOT);
                return;
            }
            reckon(level + 1, open);
            int most = level == DENIALS ? 1 : TAPE;
            for (int i = 0; i < most && levelOf(token) == level; i++) {
                int sign = token;
                step();
                reckon(level + 1, open);
                put(CODE_SIGN + sign);
            }
        }

        private void one(int open) {
            int was = token;
            if (was == NUMBER || was == NAME) {
                put(tokenCode);
                step();
                return;
            }
            if ((was != '-' && was != '(') || open >= OPEN) {
                breakOff();
                return;
            }
            step();
            if (was == '-') {
                one(open + 1);
                put(OPPOSITE);
                return;
            }
            reckon(0, open + 1);
            if (token == ')') {
                step();
            } else {
                breakOff();
            }
        }

        private static int levelOf(int sign) {
            switch (sign) {
                case OR:
                    return 0;
                case AND:
                    return 1;
                case '<':
                case '=':
                    return DENIALS;
                case '+':
                case '-':
                    return 3;
                case '*':
                    return 4;
                default:
                    return NONE;
            }
        }

        private int byteAt(int i) {
            return i >= 0 && i < size && i < TAPE ? tape[i] : NONE;
        }

        private void step() {
            for (int i = 0; i < TAPE && (byteAt(next) == ' ' || byteAt(next) == '\n'); i++) {
                next++;
            }
            tokenAt = next;
            int c = byteAt(next);
            if (c == NONE) {
                token = END;
            } else if (isLetter(c)) {
                readWord();
            } else if (isDigit(c)) {
                readNumber();
            } else {
                token = isSign(c) ? c : BROKEN;
                next++;
            }
        }

        private void readWord() {
            for (int i = 0; i < TAPE && isLetter(byteAt(next)); i++) {
                next++;
            }
            token = BROKEN;
            for (int w = 0; w < WORDS; w++) {
                if (isWord(wordOf(w))) {
                    token = w < NAMES ? NAME : KEY_TAKES + w - NAMES;
                    tokenCode = CODE_NAME + w;
                }
            }
        }

        private boolean isWord(String word) {
            if (word == null || word.length() != next - tokenAt) {
                return false;
            }
            for (int i = 0; i < word.length(); i++) {
                if (word.charAt(i) != byteAt(tokenAt + i)) {
                    return false;
                }
            }
            return true;
        }

        private void readNumber() {
            int value = 0;
            int digits = 0;
            for (int i = 0; i < TAPE && isDigit(byteAt(next)); i++) {
                if (digits < DIGITS) {
                    value = value * 10 + byteAt(next) - '0';
                }
                digits++;
                next++;
            }
            token = digits > DIGITS ? BROKEN : NUMBER;
            tokenCode = value;
        }

        private static boolean isLetter(int c) {
            return c >= 'a' && c <= 'z';
        }

        private static boolean isDigit(int c) {
            return c >= '0' && c <= '9';
        }

        private static boolean isSign(int c) {
            return c == '(' || c == ')' || c == ';' || c == '+' || c == '-' || c == '*' || c == '<' || c == '=';
        }

        /** The names as Texts numbers them, then the keys as their tokens are numbered. */
        private static String wordOf(int w) {
            switch (w) {
                case 0:
                    return "cake";
                case 1:
                    return "minute";
                case 2:
                    return "had";
                case 3:
                    return "want";
                case 4:
                    return "eater";
                case 5:
                    return "late";
                case 6:
                    return "takes";
                case 7:
                    return "hunger";
                case 8:
                    return "worth";
                case 9:
                    return "or";
                case 10:
                    return "and";
                default:
                    return "not";
            }
        }
    }

    /** The code of all texts, and what it comes to. */
    private static final class Texts {
        private int known;
        private final int[] codes = new int[TEXTS * TAPE];
        private final int[] ends = new int[TEXTS * PARTS];
        private final int[] names = new int[NAMES];
        private final int[] stack = new int[TAPE];

        private int add(Reader reader) {
            if (reader == null || known < 0 || known >= TEXTS) {
                return FULL;
            }
            for (int i = 0; i < TAPE; i++) {
                codes[known * TAPE + i] = reader.code[i];
            }
            for (int part = 0; part < PARTS; part++) {
                ends[known * PARTS + part] = reader.ends[part];
            }
            known++;
            return known - 1;
        }

        private void name(int cake, int minute, int had, int want, int eater, int late) {
            names[0] = cake;
            names[1] = minute;
            names[2] = had;
            names[3] = want;
            names[4] = eater;
            names[5] = late;
        }

        /** What a part of a text comes to for the names as they are. */
        private int valueOf(int text, int part) {
            if (text < 0 || text >= TEXTS || part < 0 || part >= PARTS) {
                return 0;
            }
            int from = part == 0 ? 0 : ends[text * PARTS + part - 1];
            int to = ends[text * PARTS + part];
            int top = 0;
            for (int i = Math.max(0, from); i < to && i < TAPE && top < TAPE; i++) {
                int c = codes[text * TAPE + i];
                if (c < Reader.CODE_SIGN) {
                    stack[top] = operand(c);
                    top++;
                } else if (c == Reader.OPPOSITE || c == Reader.CODE_SIGN + Reader.NOT) {
                    if (top > 0) {
                        stack[top - 1] = turned(c, stack[top - 1]);
                    }
                } else if (top > 1) {
                    top--;
                    stack[top - 1] = joined(c - Reader.CODE_SIGN, stack[top - 1], stack[top]);
                }
            }
            return top > 0 ? stack[0] : 0;
        }

        private int operand(int c) {
            int n = c - Reader.CODE_NAME;
            if (n < 0) {
                return c;
            }
            return n < NAMES ? names[n] : 0;
        }

        private static int turned(int c, int a) {
            if (c == Reader.OPPOSITE) {
                return -a;
            }
            return a == 0 ? 1 : 0;
        }

        private static int joined(int sign, int a, int b) {
            switch (sign) {
                case Reader.OR:
                    return a != 0 || b != 0 ? 1 : 0;
                case Reader.AND:
                    return a != 0 && b != 0 ? 1 : 0;
                case '<':
                    return a < b ? 1 : 0;
                case '=':
                    return a == b ? 1 : 0;
                case '+':
                    return a + b;
                case '-':
                    return a - b;
                default:
                    return a * b;
            }
        }
    }

    /** One supper, minute by minute; its rows are used again by each. */
    private static final class Supper {
        private final Table table;
        private final Texts texts;
        private final int[] readyAt = new int[CAKES];
        private final int[] servedAt = new int[CAKES];
        /** Bit m: some cake is served in minute m. */
        private long servings;
        private final int[] plan = new int[CAKES];
        private final int[] eats = new int[EATERS];
        private int absent;
        private final int[] had = new int[EATERS];
        private final int[] waits = new int[EATERS];
        /** The minute in which the last one given is eaten. */
        private final int[] last = new int[EATERS];
        private int leastHad;
        private int cost;
        private int fair;
        private int given;
        private int wasted;
        /** What the rule tells of an eater's minute, by how many it has had: best() asks it again and again. */
        private final int[] hungerKnown = new int[EATERS * MINUTES * (CAKES + 1)];

        private Supper(Table table, Texts texts) {
            this.table = table;
            this.texts = texts;
        }

        private void bake(int pans) {
            for (int k = 0; k < CAKES; k++) {
                texts.name(k, 0, 0, 0, 0, 0);
                int takes = within(1, texts.valueOf(table.rule, TAKES), 20);
                int ahead = k - pans;
                readyAt[k] = ahead >= 0 && ahead < k ? readyAt[ahead] + takes : takes;
            }
            heapUp(1);
        }

        /** Makes all ready for suppers with so many pans at which everybody sits. */
        private void lay(int pans) {
            bake(pans);
            absent = NONE;
            for (int e = 0; e < EATERS; e++) {
                eats[e] = eatsOf(table.kind[e], table.pace[e]);
                had[e] = 0;
            }
            leastHad = 0;
            Arrays.fill(hungerKnown, NONE);
        }

        private void heapUp(int c) {
            int row = Math.max(1, c);
            servings = 0;
            for (int k = 0; k < CAKES && k < table.batter; k++) {
                int latest = 0;
                int first = k - k % row;
                for (int i = first; i < first + row && i < CAKES && i < table.batter; i++) {
                    latest = Math.max(latest, readyAt[i]);
                }
                servedAt[k] = latest;
                if (latest < MINUTES) {
                    servings |= 1L << latest;
                }
            }
        }

        private int servedCakes() {
            int served = 0;
            for (int k = 0; k < CAKES && k < table.batter; k++) {
                if (readyAt[k] < MINUTES) {
                    served++;
                }
            }
            return served;
        }

        private void planTurns() {
            int m = Math.max(1, table.seated);
            for (int k = 0; k < CAKES; k++) {
                plan[k] = k % m;
            }
        }

        /** The i-th way to give the first n cakes, cake 0's eater being the last to change. */
        private void planFirst(int n, int i) {
            int m = Math.max(1, table.seated);
            int rest = i;
            for (int k = Math.min(n, CAKES) - 1; k >= 0; k--) {
                plan[k] = rest % m;
                rest = rest / m;
            }
        }

        private void planDrawn(int seed) {
            int m = Math.max(1, table.seated);
            int z = seed;
            for (int k = 0; k < CAKES; k++) {
                z = z * 1103515245 + 12345;
                plan[k] = (z >>> 9) % m;
            }
        }

        private void run(int way) {
            for (int e = 0; e < EATERS; e++) {
                had[e] = 0;
                waits[e] = 0;
                last[e] = NONE;
            }
            leastHad = 0;
            cost = 0;
            fair = 0;
            given = 0;
            wasted = 0;
            for (int minute = 0; minute < MINUTES; minute++) {
                if ((servings >> minute & 1L) != 0) {
                    serve(way, minute);
                    fair = Math.max(fair, mostHad() - leastHad);
                }
                pass(minute);
            }
        }

        private void serve(int way, int minute) {
            for (int k = 0; k < CAKES && k < table.batter; k++) {
                if (servedAt[k] == minute) {
                    int e = NONE;
                    if (way == BY_PLAN) {
                        e = plan[k];
                    } else if (way == BY_TURNS) {
                        e = k % Math.max(1, table.seated);
                    } else if (way == BY_HUNGER) {
                        e = hungriest(minute);
                    } else {
                        e = firstOfLeast();
                    }
                    give(k, minute, e);
                }
            }
        }

        private void give(int k, int minute, int e) {
            if (!sits(e)) {
                wasted++;
                return;
            }
            int begins = Math.max(minute, last[e]);
            texts.name(k, begins, had[e], table.want[e], e, begins - readyAt[k]);
            cost -= within(0, texts.valueOf(table.rule, WORTH), 99);
            had[e]++;
            given++;
            last[e] = begins + eats[e];
            int first = firstOfLeast();
            leastHad = sits(first) ? had[first] : 0;
        }

        private void pass(int minute) {
            for (int e = 0; e < EATERS; e++) {
                if (sits(e) && had[e] < table.want[e] && last[e] <= minute) {
                    waits[e]++;
                    cost += hungers(e, minute);
                }
            }
        }

        private boolean sits(int e) {
            return table.has(e) && e != absent;
        }

        private int hungers(int e, int minute) {
            int at = (e * MINUTES + minute) * (CAKES + 1) + had[e];
            if (at < 0 || at >= hungerKnown.length) {
                return 0;
            }
            if (hungerKnown[at] == NONE) {
                texts.name(0, minute, had[e], table.want[e], e, 0);
                hungerKnown[at] = within(0, texts.valueOf(table.rule, HUNGER), 99);
            }
            return hungersOf(table.kind[e], table.number[e], hungerKnown[at], had[e], leastHad);
        }

        private int hungriest(int minute) {
            int first = NONE;
            int most = 0;
            for (int e = 0; e < EATERS; e++) {
                if (sits(e) && had[e] < table.want[e]) {
                    int hungers = hungers(e, minute);
                    if (first == NONE || hungers > most) {
                        first = e;
                        most = hungers;
                    }
                }
            }
            return first;
        }

        private int firstOfLeast() {
            int first = NONE;
            int least = 0;
            for (int e = 0; e < EATERS; e++) {
                if (sits(e) && (first == NONE || had[e] < least)) {
                    first = e;
                    least = had[e];
                }
            }
            return first;
        }

        private int mostHad() {
            int most = 0;
            for (int e = 0; e < EATERS; e++) {
                if (sits(e)) {
                    most = Math.max(most, had[e]);
                }
            }
            return most;
        }

        private boolean isAnswer(int what) {
            if (what < 10) {
                return what >= 0 && what <= 3;
            }
            return what < 40 && table.has(what % 10);
        }

        private int answer(int what) {
            switch (what) {
                case 0:
                    return cost;
                case 1:
                    return fair;
                case 2:
                    return given;
                case 3:
                    return wasted;
                default:
                    return ofOne(what / 10, what % 10);
            }
        }

        private int ofOne(int row, int e) {
            if (!table.has(e)) {
                return NO_SUPPER;
            }
            if (row == 1) {
                return had[e];
            }
            return row == 2 ? waits[e] : last[e];
        }

        private int lastTold(int e) {
            return table.has(e) ? Math.min(last[e], MINUTES) : NONE;
        }

        private static int within(int low, int v, int high) {
            return Math.max(low, Math.min(v, high));
        }
    }
}
