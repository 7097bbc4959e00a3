import java.util.ArrayList;
import java.util.Arrays;
import java.util.HashMap;
import java.util.List;
import java.util.Map;

/**
 * The document once more, written straight from its words and without a thought for speed:
 * kinds are classes, texts are trees that are walked at every question, suppers are played anew
 * for each answer. It shares no line with FirstOne, so that a slip in one of them shows.
 */
final class Oracle {
    private static final long NO = -4611686018427387904L;

    // ---- kinds

    static class Eater implements Cloneable {
        int number;
        int want;
        int pace;

        int kind() {
            return 0;
        }

        int rawEats() {
            return pace;
        }

        int rawHungers(int v, int had, int least) {
            return v;
        }

        final int eats() {
            return Math.max(1, rawEats());
        }

        final int hungers(int v, int had, int least) {
            return Math.max(0, rawHungers(v, had, least));
        }

        Eater twin() {
            try {
                return (Eater) clone();
            } catch (CloneNotSupportedException e) {
                throw new IllegalStateException(e);
            }
        }
    }

    static class Quick extends Eater {
        @Override int kind() {
            return 1;
        }

        @Override int rawEats() {
            return super.rawEats() / 2;
        }

        @Override int rawHungers(int v, int had, int least) {
            return number + super.rawHungers(v, had, least);
        }
    }

    static class Polite extends Eater {
        @Override int kind() {
            return 2;
        }

        @Override int rawHungers(int v, int had, int least) {
            return had > least ? 0 : super.rawHungers(v, had, least);
        }
    }

    static class Greedy extends Quick {
        @Override int kind() {
            return 3;
        }

        @Override int rawEats() {
            return super.rawEats() - 1;
        }

        @Override int rawHungers(int v, int had, int least) {
            int quick = super.rawHungers(v, had, least);
            return had == 0 ? quick * 2 : quick;
        }
    }

    static class Serving extends Polite {
        @Override int kind() {
            return 4;
        }

        @Override int rawEats() {
            return super.rawEats() + 2;
        }

        @Override int rawHungers(int v, int had, int least) {
            return super.rawHungers(v, had, least) / 2;
        }
    }

    static class Small extends Eater {
        @Override int kind() {
            return 5;
        }

        @Override int rawEats() {
            return super.rawEats() * 2;
        }

        @Override int rawHungers(int v, int had, int least) {
            return Math.min(super.rawHungers(v, had, least), 5);
        }
    }

    private static Eater born(int kind) {
        switch (kind) {
            case 0: return new Eater();
            case 1: return new Quick();
            case 2: return new Polite();
            case 3: return new Greedy();
            case 4: return new Serving();
            default: return new Small();
        }
    }

    private static final List<Class<? extends Eater>> CLASSES =
        List.of(Eater.class, Quick.class, Polite.class, Greedy.class, Serving.class, Small.class);

    // ---- texts

    interface Tree {
        int of(Map<String, Integer> names);
    }

    static final class Fault extends RuntimeException {
        final int place;

        Fault(int place) {
            super(null, null, false, false);
            this.place = place;
        }
    }

    static final class Text {
        Tree takes;
        Tree hunger;
        Tree worth;
    }

    private static final List<String> KEYS = List.of("takes", "hunger", "worth", "or", "and", "not");
    private static final List<String> NAMES = List.of("cake", "minute", "had", "want", "eater", "late");

    /** Cuts a text into tokens first, then reads these. */
    static final class Parser {
        final List<String> tokens = new ArrayList<>();
        final List<Integer> places = new ArrayList<>();
        int at = 0;
        int open = 0;

        Parser(String s) {
            int i = 0;
            while (i < s.length()) {
                char c = s.charAt(i);
                int j = i + 1;
                if (c == 32 || c == 10) {
                    i++;
                    continue;
                }
                if (c >= 'a' && c <= 'z') {
                    while (j < s.length() && s.charAt(j) >= 'a' && s.charAt(j) <= 'z') {
                        j++;
                    }
                } else if (c >= '0' && c <= '9') {
                    while (j < s.length() && s.charAt(j) >= '0' && s.charAt(j) <= '9') {
                        j++;
                    }
                }
                tokens.add(s.substring(i, j));
                places.add(i);
                i = j;
            }
            tokens.add("");
            places.add(s.length());
        }

        String now() {
            return tokens.get(at);
        }

        Fault fault() {
            return new Fault(places.get(at));
        }

        boolean eat(String t) {
            if (now().equals(t)) {
                at++;
                return true;
            }
            return false;
        }

        void must(String t) {
            if (!eat(t)) {
                throw fault();
            }
        }

        Text text() {
            Text t = new Text();
            must("takes");
            t.takes = e();
            must(";");
            must("hunger");
            t.hunger = e();
            must(";");
            must("worth");
            t.worth = e();
            must(";");
            if (!now().isEmpty()) {
                throw fault();
            }
            return t;
        }

        Tree e() {
            Tree left = and();
            while (eat("or")) {
                Tree a = left;
                Tree b = and();
                left = n -> (a.of(n) != 0) | (b.of(n) != 0) ? 1 : 0;
            }
            return left;
        }

        Tree and() {
            Tree left = not();
            while (eat("and")) {
                Tree a = left;
                Tree b = not();
                left = n -> (a.of(n) != 0) & (b.of(n) != 0) ? 1 : 0;
            }
            return left;
        }

        void opens() {
            if (open == 5) {
                throw fault();
            }
            open++;
            at++;
        }

        Tree not() {
            if (now().equals("not")) {
                opens();
                Tree a = not();
                open--;
                return n -> a.of(n) != 0 ? 0 : 1;
            }
            Tree a = sum();
            if (eat("<")) {
                Tree b = sum();
                return n -> a.of(n) < b.of(n) ? 1 : 0;
            }
            if (eat("=")) {
                Tree b = sum();
                return n -> a.of(n) == b.of(n) ? 1 : 0;
            }
            return a;
        }

        Tree sum() {
            Tree left = term();
            while (now().equals("+") || now().equals("-")) {
                boolean plus = now().equals("+");
                at++;
                Tree a = left;
                Tree b = term();
                left = plus ? n -> a.of(n) + b.of(n) : n -> a.of(n) - b.of(n);
            }
            return left;
        }

        Tree term() {
            Tree left = one();
            while (eat("*")) {
                Tree a = left;
                Tree b = one();
                left = n -> a.of(n) * b.of(n);
            }
            return left;
        }

        Tree one() {
            String t = now();
            if (t.equals("-")) {
                opens();
                Tree a = one();
                open--;
                return n -> -a.of(n);
            }
            if (t.equals("(")) {
                opens();
                Tree a = e();
                must(")");
                open--;
                return a;
            }
            if (!t.isEmpty() && t.charAt(0) >= '0' && t.charAt(0) <= '9' && t.length() <= 4) {
                at++;
                int v = Integer.parseInt(t);
                return n -> v;
            }
            if (NAMES.contains(t)) {
                at++;
                return n -> n.get(t);
            }
            throw fault();
        }
    }

    private static Map<String, Integer> names(int cake, int minute, int had, int want, int eater, int late) {
        Map<String, Integer> n = new HashMap<>();
        n.put("cake", cake);
        n.put("minute", minute);
        n.put("had", had);
        n.put("want", want);
        n.put("eater", eater);
        n.put("late", late);
        return n;
    }

    private static int bound(int low, int v, int high) {
        return v < low ? low : v > high ? high : v;
    }

    // ---- the state

    private int batter = 8;
    private int pans = 1;
    private int rule = 0;
    private final List<Eater> eaters = new ArrayList<>();
    private final List<Text> texts = new ArrayList<>();
    private final StringBuilder tape = new StringBuilder();
    /** Sheets are truly byte[], short[], int[] or null here. */
    private final Object[] sheets = new Object[4];
    private int[] keptKitchen = null;
    private List<Eater> keptEaters = null;

    Oracle() {
        texts.add(new Parser("takes 4 ; hunger 1 ; worth 10 - late ;").text());
    }

    // ---- suppers

    private int readyOf(int k, int withPans) {
        int sum = 0;
        for (int j = 0; j <= k; j++) {
            if (withPans == 1 || j % 2 == k % 2) {
                sum += bound(1, texts.get(rule).takes.of(names(j, 0, 0, 0, 0, 0)), 20);
            }
        }
        return sum;
    }

    /** Who is given cake k in a minute, as things stand. */
    interface Choice {
        int of(Evening v, int k, int minute);
    }

    final class Evening {
        final int n = eaters.size();
        final int[] had = new int[n];
        final int[] waits = new int[n];
        final int[] eaten = new int[n];
        final int gone;
        int cost;
        int fair;
        int given;
        int wasted;

        Evening(Choice choice, int withPans, int heap, int gone) {
            this.gone = gone;
            Arrays.fill(eaten, -1);
            int[] served = new int[batter];
            for (int k = 0; k < batter; k++) {
                for (int j = 0; j < batter; j++) {
                    if (j / heap == k / heap) {
                        served[k] = Math.max(served[k], readyOf(j, withPans));
                    }
                }
            }
            for (int minute = 0; minute <= 59; minute++) {
                for (int k = 0; k < batter; k++) {
                    if (served[k] == minute) {
                        give(k, choice.of(this, k, minute), minute, withPans);
                    }
                }
                for (int e = 0; e < n; e++) {
                    if (e != gone && had[e] < eaters.get(e).want && eaten[e] <= minute) {
                        waits[e]++;
                        cost += hungersOf(e, minute);
                    }
                }
                fair = Math.max(fair, spread());
            }
        }

        void give(int k, int e, int minute, int withPans) {
            if (e < 0 || e >= n) {
                wasted++;
                return;
            }
            int begins = minute;
            if (eaten[e] > minute) {
                begins = eaten[e];
            }
            Eater who = eaters.get(e);
            cost -= bound(0, texts.get(rule).worth.of(
                names(k, begins, had[e], who.want, e, begins - readyOf(k, withPans))), 99);
            had[e]++;
            eaten[e] = begins + who.eats();
            given++;
        }

        int least() {
            int least = Integer.MAX_VALUE;
            for (int e = 0; e < n; e++) {
                if (e != gone) {
                    least = Math.min(least, had[e]);
                }
            }
            return least;
        }

        int spread() {
            int most = 0;
            for (int e = 0; e < n; e++) {
                most = Math.max(most, had[e]);
            }
            return n == 0 ? 0 : most - least();
        }

        int hungersOf(int e, int minute) {
            Eater who = eaters.get(e);
            int v = bound(0, texts.get(rule).hunger.of(names(0, minute, had[e], who.want, e, 0)), 99);
            return who.hungers(v, had[e], least());
        }
    }

    private Choice choice(int way) {
        if (way == 1) {
            return (v, k, minute) -> eaters.isEmpty() ? -1 : k % eaters.size();
        }
        if (way == 2) {
            return (v, k, minute) -> {
                int best = -1;
                for (int e = v.n - 1; e >= 0; e--) {
                    if (e != v.gone && v.had[e] < eaters.get(e).want
                        && (best < 0 || v.hungersOf(e, minute) >= v.hungersOf(best, minute))) {
                        best = e;
                    }
                }
                return best;
            };
        }
        return (v, k, minute) -> {
            for (int h = 0; h <= 12; h++) {
                for (int e = 0; e < v.n; e++) {
                    if (v.had[e] == h) {
                        return e;
                    }
                }
            }
            return -1;
        };
    }

    private Evening evening(int way) {
        return new Evening(choice(way), pans, 1, -1);
    }

    private Evening planned(int[] plan) {
        return new Evening((v, k, minute) -> k < plan.length ? plan[k] : -1, pans, 1, -1);
    }

    private int answer(Evening v, int what) {
        switch (what) {
            case 0: return v.cost;
            case 1: return v.fair;
            case 2: return v.given;
            case 3: return v.wasted;
            default: break;
        }
        int e = what % 10;
        return what / 10 == 1 ? v.had[e] : what / 10 == 2 ? v.waits[e] : v.eaten[e];
    }

    private boolean asks(int what) {
        if (what >= 0 && what <= 3) {
            return true;
        }
        for (int e = 0; e < eaters.size(); e++) {
            if (what == 10 + e || what == 20 + e || what == 30 + e) {
                return true;
            }
        }
        return false;
    }

    // ---- sheets

    private static boolean sheetNo(int s) {
        return s >= 0 && s <= 3;
    }

    private static int sort(Object row) {
        return row instanceof byte[] ? 0 : row instanceof short[] ? 1 : 2;
    }

    private static int[] ints(Object row) {
        int n = java.lang.reflect.Array.getLength(row);
        int[] r = new int[n];
        for (int i = 0; i < n; i++) {
            r[i] = java.lang.reflect.Array.getInt(row, i);
        }
        return r;
    }

    private static void put(Object row, int i, int v) {
        if (row instanceof byte[]) {
            ((byte[]) row)[i] = (byte) v;
        } else if (row instanceof short[]) {
            ((short[]) row)[i] = (short) v;
        } else {
            ((int[]) row)[i] = v;
        }
    }

    // ---- the face

    int set(int what, int of, int v) {
        int was;
        if (what == 0 && v >= 0 && v <= 12) {
            was = batter;
            batter = v;
            return was;
        }
        if (what == 1 && (v == 1 || v == 2)) {
            was = pans;
            pans = v;
            return was;
        }
        if (what < 2 || what > 4 || of < 0 || of >= eaters.size()) {
            return -2;
        }
        Eater e = eaters.get(of);
        if (what == 2 && v >= 0 && v <= 9) {
            was = e.number;
            e.number = v;
            return was;
        }
        if (what == 3 && v >= 0 && v <= 12) {
            was = e.want;
            e.want = v;
            return was;
        }
        if (what == 4 && v >= 1 && v <= 20) {
            was = e.pace;
            e.pace = v;
            return was;
        }
        return -2;
    }

    int eater(int kind, int what, int pace) {
        boolean known = false;
        for (int number = 0; number <= 9; number++) {
            for (int want = 0; want <= 12; want++) {
                known |= what == 100 * number + want;
            }
        }
        if (kind < 0 || kind > 5 || !known || pace < 1 || pace > 20) {
            return -2;
        }
        if (eaters.size() == 5) {
            return -4;
        }
        Eater e = born(kind);
        e.number = what / 100;
        e.want = what % 100;
        e.pace = pace;
        eaters.add(e);
        return eaters.size() - 1;
    }

    int told(int eater, int what) {
        if (eater < 0 || eater >= eaters.size()) {
            return -2;
        }
        Eater e = eaters.get(eater);
        switch (what) {
            case 0: return e.kind();
            case 1: return e.eats();
            case 2: return e.number;
            case 3: return e.want;
            case 4: return e.pace;
            case 5: return e.hungers(bound(0, texts.get(rule).hunger.of(names(0, 0, 0, e.want, eater, 0)), 99), 0, 0);
            default: return -2;
        }
    }

    int ready(int cake) {
        return cake < 0 || cake >= batter ? -2 : readyOf(cake, pans);
    }

    int feed(int letter) {
        if (letter < 0 || letter > 255) {
            return -2;
        }
        if (tape.length() == 160) {
            return -4;
        }
        tape.append((char) letter);
        return tape.length();
    }

    int text() {
        if (texts.size() == 6) {
            return -4;
        }
        String s = tape.toString();
        tape.setLength(0);
        try {
            texts.add(new Parser(s).text());
            return texts.size() - 1;
        } catch (Fault f) {
            return -100 - f.place;
        }
    }

    int force(int text) {
        if (text < 0 || text >= texts.size()) {
            return -2;
        }
        int was = rule;
        rule = text;
        return was;
    }

    int supper(int way, int sheet, int what) {
        if (way < 0 || way > 3 || !asks(what)) {
            return -100000;
        }
        if (way > 0) {
            return answer(evening(way), what);
        }
        if (!sheetNo(sheet) || sheets[sheet] == null) {
            return -100000;
        }
        return answer(planned(ints(sheets[sheet])), what);
    }

    int heap(int c, int what) {
        if (c < 1 || c > 12 || !asks(what)) {
            return -100000;
        }
        return answer(new Evening(choice(1), pans, c, -1), what);
    }

    private int[] bestPlan;
    private int bestCost;

    private void tryFirst(int[] plan, int n, int k) {
        if (k == n) {
            int cost = planned(plan).cost;
            if (bestPlan == null || cost < bestCost) {
                bestPlan = plan.clone();
                bestCost = cost;
            }
            return;
        }
        for (int e = 0; e < eaters.size(); e++) {
            plan[k] = e;
            tryFirst(plan, n, k + 1);
        }
    }

    int best(int n, int what) {
        if (n < 0 || n > 4 || n > batter || what < -1 || what >= n || eaters.isEmpty()) {
            return -100000;
        }
        int[] plan = new int[batter];
        for (int k = 0; k < batter; k++) {
            plan[k] = k % eaters.size();
        }
        bestPlan = null;
        tryFirst(plan, n, 0);
        return what == -1 ? bestCost : bestPlan[what];
    }

    int keep(int what) {
        if (what != 0 && what != 1) {
            return -100000;
        }
        int c = 12;
        for (int i = 11; i >= 1; i--) {
            if (heap(i, 0) <= heap(c, 0)) {
                c = i;
            }
        }
        return what == 0 ? c : heap(c, 0);
    }

    int second() {
        return new Evening(choice(2), 1, 1, -1).cost - new Evening(choice(2), 2, 1, -1).cost;
    }

    int leave() {
        int best = -1;
        int cost = 0;
        for (int e = eaters.size() - 1; e >= 0; e--) {
            int c = new Evening(choice(2), pans, 1, e).cost;
            if (best < 0 || c <= cost) {
                best = e;
                cost = c;
            }
        }
        return best;
    }

    private static long orders(int[] left, int cakes, Map<String, Long> known) {
        if (cakes == 0) {
            for (int l : left) {
                if (l != 0) {
                    return 0;
                }
            }
            return 1;
        }
        String key = Arrays.toString(left) + cakes;
        Long was = known.get(key);
        if (was != null) {
            return was;
        }
        long all = 0;
        for (int e = 0; e < left.length; e++) {
            if (left[e] > 0) {
                left[e]--;
                all += orders(left, cakes - 1, known);
                left[e]++;
            }
        }
        known.put(key, all);
        return all;
    }

    long plates(int sheet, int what) {
        if (!sheetNo(sheet) || (what != 0 && what != 1) || sheets[sheet] == null) {
            return NO;
        }
        int[] row = ints(sheets[sheet]);
        if (row.length != eaters.size()) {
            return NO;
        }
        if (what == 0) {
            return (Arrays.equals(evening(1).had, row) ? 2 : 0) + (Arrays.equals(evening(2).had, row) ? 4 : 0)
                + (Arrays.equals(evening(3).had, row) ? 8 : 0);
        }
        return orders(row, count(6), new HashMap<>());
    }

    private int eatenBy(int e) {
        int m = evening(1).eaten[e];
        return m > 59 ? 60 : m;
    }

    int eaten(int sheet, int eater) {
        if (!sheetNo(sheet) || eater < -1 || eater >= eaters.size()) {
            return -2;
        }
        if (sheets[sheet] == null) {
            return -11;
        }
        int[] row = ints(sheets[sheet]);
        if (row.length != eaters.size()) {
            return -2;
        }
        int bits = 0;
        if (eater == -1) {
            for (int e = 0; e < row.length; e++) {
                if (row[e] != eatenBy(e)) {
                    bits += 1 << e;
                }
            }
            return bits;
        }
        int was = eaters.get(eater).pace;
        for (int p = 1; p <= 20; p++) {
            eaters.get(eater).pace = p;
            if (row[eater] == eatenBy(eater)) {
                bits += 1 << p;
            }
        }
        eaters.get(eater).pace = was;
        return bits;
    }

    int film(int sheet, int way) {
        if (!sheetNo(sheet) || way < 1 || way > 3) {
            return -2;
        }
        int[] had = evening(way).had;
        byte[] row = new byte[had.length];
        for (int e = 0; e < had.length; e++) {
            row[e] = (byte) had[e];
        }
        sheets[sheet] = row;
        return had.length;
    }

    long drawn(int seed) {
        if (eaters.isEmpty()) {
            return NO;
        }
        int[] plan = new int[batter];
        int z = seed;
        for (int k = 0; k < batter; k++) {
            z = z * 1103515245 + 12345;
            plan[k] = (z >>> 9) % eaters.size();
        }
        return planned(plan).cost;
    }

    long chance(int seed, int n, int part) {
        if (n < 1 || n > 20 || part < 0 || part > 1 || eaters.isEmpty()) {
            return NO;
        }
        int above = 0;
        int line = evening(1).cost;
        for (int i = 0; i < n; i++) {
            if (drawn(seed + i) <= line) {
                above++;
            }
        }
        int below = n;
        for (int d = 20; d > 1; d--) {
            if (above % d == 0 && below % d == 0) {
                above /= d;
                below /= d;
            }
        }
        return part == 0 ? above : below;
    }

    int image() {
        keptKitchen = new int[] {batter, pans, rule};
        keptEaters = new ArrayList<>();
        for (Eater e : eaters) {
            keptEaters.add(e.twin());
        }
        return eaters.size();
    }

    int back() {
        if (keptKitchen == null) {
            return -3;
        }
        batter = keptKitchen[0];
        pans = keptKitchen[1];
        rule = keptKitchen[2];
        while (eaters.size() > keptEaters.size()) {
            eaters.remove(eaters.size() - 1);
        }
        for (int e = 0; e < eaters.size(); e++) {
            eaters.get(e).number = keptEaters.get(e).number;
            eaters.get(e).want = keptEaters.get(e).want;
            eaters.get(e).pace = keptEaters.get(e).pace;
        }
        return eaters.size();
    }

    int count(int what) {
        int n = 0;
        switch (what) {
            case 0: return eaters.size();
            case 1: return batter;
            case 2: return pans;
            case 3: return texts.size();
            case 4: return tape.length();
            case 5: return rule;
            case 6:
                for (int k = 0; k < batter; k++) {
                    n += readyOf(k, pans) <= 59 ? 1 : 0;
                }
                return n;
            case 7:
                for (Eater e : eaters) {
                    n += e.want;
                }
                return n;
            default: return -2;
        }
    }

    int sheet(int sheet, int sort, int n) {
        if (!sheetNo(sheet) || sort < -1 || sort > 2) {
            return -2;
        }
        if (sort == -1) {
            sheets[sheet] = null;
            return 1;
        }
        if (n > 40) {
            return -2;
        }
        try {
            sheets[sheet] = sort == 0 ? new byte[n] : sort == 1 ? new short[n] : new int[n];
            return 1;
        } catch (NegativeArraySizeException e) {
            return -14;
        }
    }

    int cell(int sheet, int i, int v) {
        if (!sheetNo(sheet)) {
            return -2;
        }
        try {
            if (sheets[sheet] == null) {
                return -11;
            }
            put(sheets[sheet], i, v);
            return 1;
        } catch (ArrayIndexOutOfBoundsException e) {
            return -12;
        }
    }

    int copy(int sheet, int i, int other, int j, int n) {
        if (!sheetNo(sheet) || !sheetNo(other)) {
            return -2;
        }
        try {
            System.arraycopy(sheets[sheet], i, sheets[other], j, n);
            return n;
        } catch (NullPointerException e) {
            return -11;
        } catch (ArrayStoreException e) {
            return -13;
        } catch (IndexOutOfBoundsException e) {
            return -12;
        }
    }

    int eaters(int sheet, int sort, int from, int n) {
        if (!sheetNo(sheet) || sort < 0 || sort > 2 || n < 0 || n > 5) {
            return -2;
        }
        if (sheets[sheet] == null) {
            return -11;
        }
        if (sort(sheets[sheet]) != sort) {
            return -13;
        }
        int[] row = ints(sheets[sheet]);
        int came = 0;
        for (int t = 0; t < n; t++) {
            long p = from + 3L * t;
            if (p < 0 || p + 2 >= row.length) {
                return -12;
            }
            if (eater(row[(int) p], row[(int) p + 1], row[(int) p + 2]) >= 0) {
                came++;
            }
        }
        return came;
    }

    int taken(int eater, int k) {
        if (k < 0 || k > 5) {
            return -2;
        }
        if (eater < 0 || eater >= eaters.size()) {
            return -11;
        }
        Eater e = eaters.get(eater);
        return CLASSES.get(k).isInstance(e) ? e.number : -13;
    }
}
