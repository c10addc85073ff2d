import java.util.ArrayList;
import java.util.List;

/**
 * The house once more, as plainly as can be and with no eye on what it costs: texts by descent through
 * the grammar, orders by all rows there are, payments and men by all partings into sets, rings by all
 * rows of merchants, plans by all plans. RandomTest asks it and TinHouse the same.
 */
final class Plain implements Cloneable {
    static final int NONE = -1, BAD = -2, NO = -3, FULL = -4;
    static final long BAD_TOLD = -2000000000000000000L;
    static final long NO_TOLD = -3000000000000000000L;
    static final long BAD_SILVER = -9000000000000000000L;

    List<int[]> merchants = new ArrayList<>();
    List<Act> acts = new ArrayList<>();
    List<int[]> debts = new ArrayList<>();
    List<int[]> payments = new ArrayList<>();
    List<int[]> purses = new ArrayList<>();
    List<int[]> shares = new ArrayList<>();
    List<Integer> gates = new ArrayList<>();
    List<int[]> stones = new ArrayList<>();
    List<int[]> told = new ArrayList<>();
    List<int[]> letters = new ArrayList<>();
    List<int[]> mentions = new ArrayList<>();
    List<int[]> loads = new ArrayList<>();
    int[] prices = new int[3];
    String[] texts = {"", "", "", ""};
    int narrow = 10;
    int names = 9;
    long above = 0;
    long below = 1;
    Plain[] images = new Plain[2];

    record Act(String text, int sort, int from) { }

    // ---- texts

    /** A text's fault is where the reading stopped. */
    static final class Fault extends RuntimeException {
        final int code;

        Fault(int code) {
            super(null, null, false, false);
            this.code = code;
        }
    }

    static final class Descent {
        final String text;
        final long g, k, t, s, w;
        int at = 0;
        int open = 0;

        Descent(String text, long g, long k, long t, long s, long w) {
            this.text = text;
            this.g = g;
            this.k = k;
            this.t = t;
            this.s = s;
            this.w = w;
        }

        char peek() {
            while (at < text.length() && text.charAt(at) == ' ') {
                at++;
            }
            return at < text.length() ? text.charAt(at) : (char) 999;
        }

        boolean take(char sign) {
            if (peek() != sign) {
                return false;
            }
            at++;
            return true;
        }

        Fault stop() {
            peek();
            return new Fault(10 * at + 1);
        }

        long all() {
            long v = value();
            if (peek() != (char) 999) {
                throw stop();
            }
            return v;
        }

        long value() {
            long v = either();
            if (take('?')) {
                long then = value();
                if (!take(':')) {
                    throw stop();
                }
                long otherwise = value();
                return v != 0 ? then : otherwise;
            }
            return v;
        }

        long either() {
            long v = both();
            while (take('|')) {
                long b = both();
                v = v != 0 || b != 0 ? 1 : 0;
            }
            return v;
        }

        long both() {
            long v = held();
            while (take('&')) {
                long b = held();
                v = v != 0 && b != 0 ? 1 : 0;
            }
            return v;
        }

        long held() {
            long v = sum();
            if (take('<')) {
                return v < sum() ? 1 : 0;
            }
            if (take('>')) {
                return v > sum() ? 1 : 0;
            }
            if (take('=')) {
                return v == sum() ? 1 : 0;
            }
            return v;
        }

        long sum() {
            long v = term();
            while (true) {
                if (take('+')) {
                    v += term();
                } else if (take('-')) {
                    v -= term();
                } else {
                    return v;
                }
            }
        }

        long term() {
            long v = unit();
            while (true) {
                if (take('*')) {
                    v *= unit();
                } else if (take('/')) {
                    long b = unit();
                    v = b == 0 ? 0 : v / b;
                } else {
                    return v;
                }
            }
        }

        long unit() {
            char sign = peek();
            if (sign >= '0' && sign <= '9') {
                return digits();
            }
            if (take('(')) {
                open++;
                if (open == 9) {
                    throw new Fault(10 * (at - 1) + 3);
                }
                long v = value();
                if (!take(')')) {
                    throw stop();
                }
                open--;
                return v;
            }
            if (take('!')) {
                return unit() == 0 ? 1 : 0;
            }
            if (take('-')) {
                return -unit();
            }
            if (take('g')) {
                return g;
            }
            if (take('k')) {
                return k;
            }
            if (take('t')) {
                return t;
            }
            if (take('s')) {
                return s;
            }
            if (take('w')) {
                return w;
            }
            throw stop();
        }

        long digits() {
            int first = at;
            long v = 0;
            while (at < text.length() && Character.isDigit(text.charAt(at))) {
                if (at - first == 6) {
                    throw new Fault(10 * first + 2);
                }
                v = 10 * v + text.charAt(at) - '0';
                at++;
            }
            return v;
        }
    }

    static int faultOf(String text) {
        try {
            new Descent(text, 0, 0, 0, 0, 0).all();
            return NONE;
        } catch (Fault fault) {
            return fault.code;
        }
    }

    // ---- the calls

    static boolean out(long v, long least, long most) {
        return v < least || v > most;
    }

    boolean no(int number, List<?> rows) {
        return out(number, 0, rows.size() - 1);
    }

    boolean season(int s) {
        return out(s, 0, 99);
    }

    int merchant(int house, int town) {
        if (out(house, 0, 4) || out(town, 0, 1)) {
            return BAD;
        }
        return add(merchants, 10, house, town);
    }

    static int add(List<int[]> rows, int most, int... row) {
        if (rows.size() == most) {
            return FULL;
        }
        rows.add(row);
        return rows.size() - 1;
    }

    static int many(int number) {
        return number < 0 ? number : number + 1;
    }

    int write(int text, int character) {
        if (out(text, 0, 3) || out(character, 0, 127)) {
            return BAD;
        }
        if (texts[text].length() == 50) {
            return FULL;
        }
        texts[text] += (char) character;
        return texts[text].length();
    }

    int erase(int text) {
        if (out(text, 0, 3)) {
            return BAD;
        }
        int length = texts[text].length();
        texts[text] = "";
        return length;
    }

    int fault(int text) {
        return out(text, 0, 3) ? BAD : faultOf(texts[text]);
    }

    long tells(int text, int g, int k, int t, int s, long w) {
        if (out(text, 0, 3) || out(g, 0, 5) || out(k, 0, 1) || out(t, 0, 1) || season(s)) {
            return BAD_TOLD;
        }
        return fault(text) != NONE ? NO_TOLD : new Descent(texts[text], g, k, t, s, w).all();
    }

    int act(int text, int sort, int from) {
        if (out(text, 0, 3) || out(sort, 0, 2) || season(from)) {
            return BAD;
        }
        if (fault(text) != NONE) {
            return NO;
        }
        if (acts.size() == 16) {
            return FULL;
        }
        acts.add(new Act(texts[text], sort, from));
        return acts.size() - 1;
    }

    int force(int sort, int s) {
        if (out(sort, 0, 2) || season(s)) {
            return BAD;
        }
        for (int from = s; from >= 0; from--) {
            for (int i = acts.size() - 1; i >= 0; i--) {
                if (acts.get(i).sort == sort && acts.get(i).from == from) {
                    return i;
                }
            }
        }
        return NONE;
    }

    long said(int sort, int s, int g, boolean kin, int t, long w) {
        int act = force(sort, s);
        if (act == NONE) {
            return sort == 0 ? 5 : sort == 1 ? 30 : 100;
        }
        long v = new Descent(acts.get(act).text, g, kin ? 1 : 0, t, s, w).all();
        long most = sort == 0 ? 100 : sort == 1 ? 1000 : 200;
        return v < 0 ? 0 : v > most ? most : v;
    }

    boolean kin(int a, int b) {
        return merchants.get(a)[0] == merchants.get(b)[0];
    }

    int town(int merchant) {
        return merchants.get(merchant)[1];
    }

    int debt(int lender, int owes, int sum, int lent, int due) {
        if (no(lender, merchants) || no(owes, merchants) || lender == owes || out(sum, 1, 1000000)
                || season(lent) || season(due) || due < lent) {
            return BAD;
        }
        return add(debts, 40, lender, owes, sum, lent, due, NONE, NONE);
    }

    int pay(int debt, int s, int sum) {
        if (no(debt, debts) || season(s) || out(sum, 1, 1000000) || s < debts.get(debt)[3]) {
            return BAD;
        }
        return many(add(payments, 60, debt, s, sum));
    }

    int seal(int debt, int outside) {
        if (no(debt, debts) || out(outside, 1, 1000000)) {
            return BAD;
        }
        if (debts.get(debt)[5] != NONE) {
            return NO;
        }
        debts.get(debt)[5] = outside;
        return 1;
    }

    int breaks(int debt, int s) {
        if (no(debt, debts) || season(s)) {
            return BAD;
        }
        if (debts.get(debt)[5] == NONE || debts.get(debt)[6] != NONE) {
            return NO;
        }
        debts.get(debt)[6] = s;
        return 1;
    }

    long owed(int debt, int asked) {
        if (no(debt, debts) || season(asked)) {
            return BAD;
        }
        int[] d = debts.get(debt);
        long left = d[2];
        if (d[5] != NONE && (d[6] == NONE || asked < d[6])) {
            left = d[5];
        }
        for (int s = d[3]; s <= asked; s++) {
            for (int[] payment : payments) {
                if (payment[0] == debt && payment[1] == s) {
                    left = Math.max(0, left - payment[2]);
                }
            }
            if (s > d[4]) {
                left += left * said(1, s, 0, kin(d[0], d[1]), town(d[1]), left) / 1000;
                left = Math.min(left, 1000000000000L);
            }
        }
        return asked < d[3] ? 0 : left;
    }

    int purse(int manager, int end, int put) {
        if (no(manager, merchants) || season(end) || out(put, 1, 10000)) {
            return BAD;
        }
        int purse = add(purses, 3, manager, end, put);
        if (purse >= 0) {
            shares.add(new int[10]);
        }
        return purse;
    }

    int allShares(int purse) {
        int all = 0;
        for (int n : shares.get(purse)) {
            all += n;
        }
        return all;
    }

    int share(int purse, int merchant, int n) {
        if (no(purse, purses) || no(merchant, merchants) || out(n, 1, 30)) {
            return BAD;
        }
        if (allShares(purse) + n > 30) {
            return NO;
        }
        return shares.get(purse)[merchant] += n;
    }

    int leave(int purse, int merchant, int s) {
        if (no(purse, purses) || no(merchant, merchants) || season(s) || s >= purses.get(purse)[1]) {
            return BAD;
        }
        int has = shares.get(purse)[merchant];
        if (has == 0) {
            return NO;
        }
        shares.get(purse)[merchant] = 0;
        long put = (long) has * purses.get(purse)[2];
        return (int) (put * said(2, s, 0, kin(merchant, purses.get(purse)[0]), town(merchant), put) / 100);
    }

    int parted(int purse, int shekels, int merchant) {
        if (no(purse, purses) || out(shekels, 0, 100000000) || no(merchant, merchants)) {
            return BAD;
        }
        long[] gets = new long[10];
        long rest = shekels - shekels / 3;
        long over = rest;
        for (int i = 0; i < 10 && allShares(purse) > 0; i++) {
            gets[i] = rest * shares.get(purse)[i] / allShares(purse);
            over -= gets[i];
        }
        gets[purses.get(purse)[0]] += shekels / 3 + over;
        return (int) gets[merchant];
    }

    int gate(int land) {
        if (out(land, 0, 1)) {
            return BAD;
        }
        if (gates.size() == 6) {
            return FULL;
        }
        gates.add(land);
        return gates.size();
    }

    int wide(int merchant, int weight, int s) {
        if (no(merchant, merchants) || out(weight, 1, 1000000) || season(s)) {
            return BAD;
        }
        long left = weight;
        for (int i = 0; i < gates.size(); i++) {
            left -= left * said(0, s, i, town(merchant) == gates.get(i), gates.get(i), left) / 100;
        }
        return (int) left;
    }

    int narrow(int n) {
        if (out(n, 2, 100)) {
            return BAD;
        }
        int was = narrow;
        narrow = n;
        return was;
    }

    void fraction(long a, long b) {
        long divisor = b;
        while (a % divisor != 0 || b % divisor != 0) {
            divisor--;
        }
        above = a / divisor;
        below = b / divisor;
    }

    int mean(int weight) {
        if (out(weight, 1, 1000000)) {
            return BAD;
        }
        fraction((long) weight * (narrow - 1), narrow);
        return 1;
    }

    int better(int merchant, int weight, int s) {
        int left = wide(merchant, weight, s);
        if (left == BAD) {
            return BAD;
        }
        return (long) weight * (narrow - 1) - (long) left * narrow > 0 ? 1 : 0;
    }

    int stone(int a, int b, int e) {
        if (out(a, 1, 10000) || out(b, 1, 10000) || out(e, 0, b - 1)) {
            return BAD;
        }
        return many(add(stones, 12, a, b, e));
    }

    int span(int x, int which) {
        if (out(x, 1, 1000000) || out(which, 0, 1)) {
            return BAD;
        }
        if (stones.isEmpty()) {
            return 0;
        }
        long[] lower = {0, 1};
        long[] upper = {1000000000L, 1};
        for (int[] stone : stones) {
            long a = stone[0];
            if ((stone[1] - stone[2]) * lower[1] > lower[0] * a) {
                lower = new long[] {stone[1] - stone[2], a};
            }
            if ((stone[1] + stone[2]) * upper[1] < upper[0] * a) {
                upper = new long[] {stone[1] + stone[2], a};
            }
        }
        if (lower[0] * upper[1] > upper[0] * lower[1]) {
            return 0;
        }
        long[] end = which == 0 ? lower : upper;
        fraction(end[0] * x, end[1]);
        return 1;
    }

    // ---- nets

    long balance(int merchant, int s) {
        if (no(merchant, merchants) || season(s)) {
            return BAD_SILVER;
        }
        long v = 0;
        for (int i = 0; i < debts.size(); i++) {
            v += debts.get(i)[0] == merchant ? owed(i, s) : 0;
            v -= debts.get(i)[1] == merchant ? owed(i, s) : 0;
        }
        return v;
    }

    int fewest(int s) {
        if (season(s)) {
            return BAD;
        }
        List<Long> uneven = new ArrayList<>();
        for (int i = 0; i < merchants.size(); i++) {
            if (balance(i, s) != 0) {
                uneven.add(balance(i, s));
            }
        }
        return uneven.size() - mostSets(uneven, 0, new ArrayList<>());
    }

    /** Puts each balance into one of the sets or a new one; the most sets where all sum to 0. */
    private static int mostSets(List<Long> uneven, int i, List<Long> sets) {
        if (i == uneven.size()) {
            for (long sum : sets) {
                if (sum != 0) {
                    return -1;
                }
            }
            return sets.size();
        }
        long v = uneven.get(i);
        int most = -1;
        for (int set = 0; set < sets.size(); set++) {
            sets.set(set, sets.get(set) + v);
            most = Math.max(most, mostSets(uneven, i + 1, sets));
            sets.set(set, sets.get(set) - v);
        }
        sets.add(v);
        most = Math.max(most, mostSets(uneven, i + 1, sets));
        sets.remove(sets.size() - 1);
        return most;
    }

    int ring(int s, int what) {
        if (season(s) || what < NONE) {
            return BAD;
        }
        long[][] owes = new long[10][10];
        for (int i = 0; i < debts.size(); i++) {
            owes[debts.get(i)[1]][debts.get(i)[0]] += owed(i, s);
        }
        for (int length = 2; length <= merchants.size(); length++) {
            List<Integer> row = rowOf(owes, length, new ArrayList<>());
            if (row != null) {
                return what == NONE ? length : what < length ? row.get(what) : NONE;
            }
        }
        return what == NONE ? 0 : NONE;
    }

    private List<Integer> rowOf(long[][] owes, int length, List<Integer> row) {
        if (row.size() == length) {
            return owes[row.get(length - 1)][row.get(0)] > 0 ? new ArrayList<>(row) : null;
        }
        for (int next = row.isEmpty() ? 0 : row.get(0) + 1; next < merchants.size(); next++) {
            if (!row.contains(next) && (row.isEmpty() || owes[row.get(row.size() - 1)][next] > 0)) {
                row.add(next);
                List<Integer> found = rowOf(owes, length, row);
                row.remove(row.size() - 1);
                if (found != null) {
                    return found;
                }
            }
        }
        return null;
    }

    // ---- names, letters, men

    int names(int n) {
        if (out(n, 1, 9)) {
            return BAD;
        }
        names = n;
        told.clear();
        return 1;
    }

    int ahead(int a, int b, int known) {
        if (out(a, 0, names - 1) || out(b, 0, names - 1) || a == b || season(known)) {
            return BAD;
        }
        return many(add(told, 40, a, b, known));
    }

    /** All rows that agree, in their order: visited one by one. */
    private final class Rows {
        final int k;
        final int[] row = new int[names];
        final int[] placeOf = new int[names];
        int count = 0;
        int[] first = null;
        final int[] least = new int[names];
        final int[] most = new int[names];

        Rows(int k) {
            this.k = k;
            java.util.Arrays.fill(placeOf, -1);
            java.util.Arrays.fill(least, 99);
            java.util.Arrays.fill(most, -1);
            visit(0);
        }

        void visit(int i) {
            if (i == names) {
                see();
                return;
            }
            for (int name = 0; name < names; name++) {
                if (placeOf[name] < 0) {
                    row[i] = name;
                    placeOf[name] = i;
                    visit(i + 1);
                    placeOf[name] = -1;
                }
            }
        }

        void see() {
            for (int[] pair : told) {
                if (pair[2] <= k && placeOf[pair[0]] > placeOf[pair[1]]) {
                    return;
                }
            }
            count++;
            first = first == null ? row.clone() : first;
            for (int i = 0; i < names; i++) {
                least[i] = Math.min(least[i], placeOf[i]);
                most[i] = Math.max(most[i], placeOf[i]);
            }
        }
    }

    int orders(int k) {
        return season(k) ? BAD : new Rows(k).count;
    }

    int place(int name, int k, int which) {
        if (out(name, 0, names - 1) || season(k) || out(which, 0, 1)) {
            return BAD;
        }
        Rows rows = new Rows(k);
        return rows.count == 0 ? NONE : which == 0 ? rows.least[name] : rows.most[name];
    }

    int order(int k, int i) {
        if (out(i, 0, names - 1) || season(k)) {
            return BAD;
        }
        Rows rows = new Rows(k);
        return rows.count == 0 ? NONE : rows.first[i];
    }

    int letter(int from, int to, int sent, int come, int thing) {
        if (no(from, merchants) || no(to, merchants) || from == to || out(sent, 0, 9999)
                || out(come, 0, 9999) || come < sent || out(thing, -1, 7)) {
            return BAD;
        }
        return add(letters, 30, from, to, sent, come, thing);
    }

    /** For each thing, who knows it from which day on: days go down until nothing changes. */
    private int[] knownFrom(int thing) {
        int[] from = new int[10];
        java.util.Arrays.fill(from, 20000);
        boolean changes = true;
        while (changes) {
            changes = false;
            for (int[] l : letters) {
                if (l[4] == thing && l[2] < from[l[0]]) {
                    from[l[0]] = l[2];
                    changes = true;
                }
                if (from[l[0]] <= l[2] && l[3] < from[l[1]]) {
                    from[l[1]] = l[3];
                    changes = true;
                }
            }
        }
        return from;
    }

    int knows(int merchant, int thing, int day) {
        if (no(merchant, merchants) || out(thing, 0, 7) || out(day, 0, 9999)) {
            return BAD;
        }
        return knownFrom(thing)[merchant] <= day ? 1 : 0;
    }

    int carries(int letter) {
        if (no(letter, letters)) {
            return BAD;
        }
        int bits = 0;
        for (int thing = 0; thing < 8; thing++) {
            bits |= knows(letters.get(letter)[0], thing, letters.get(letter)[2]) << thing;
        }
        return bits;
    }

    int mention(int house, int seal, int s) {
        if (out(house, -1, 4) || out(seal, -1, 9) || season(s)) {
            return BAD;
        }
        return add(mentions, 10, house, seal, s);
    }

    int men(int what) {
        if (out(what, -1, mentions.size() - 1)) {
            return -10;
        }
        int[] row = new int[mentions.size()];
        int[] best = new int[mentions.size()];
        int sets = part(0, row, 0, 99, best);
        return what == NONE ? sets : best[what];
    }

    /** All rows in their order; a row with fewer sets than the best is the best one. */
    private int part(int i, int[] row, int sets, int least, int[] best) {
        if (i == row.length) {
            if (sets < least) {
                System.arraycopy(row, 0, best, 0, row.length);
            }
            return Math.min(sets, least);
        }
        int fewest = least;
        for (int set = 0; set <= i; set++) {
            boolean fits = set == i || row[set] == set;
            for (int other = set; other < i; other++) {
                fits = fits && (row[other] != set || oneMan(mentions.get(i), mentions.get(other)));
            }
            if (fits) {
                row[i] = set;
                fewest = part(i + 1, row, sets + (set == i ? 1 : 0), fewest, best);
            }
        }
        return fewest;
    }

    private static boolean oneMan(int[] a, int[] b) {
        for (int column = 0; column < 2; column++) {
            if (a[column] != NONE && b[column] != NONE && a[column] != b[column]) {
                return false;
            }
        }
        return Math.abs(a[2] - b[2]) <= 40;
    }

    // ---- plans

    int load(int merchant, int weight, int cost) {
        if (no(merchant, merchants) || out(weight, 1, 1000000) || out(cost, 0, 1000000)) {
            return BAD;
        }
        return add(loads, 6, merchant, weight, cost);
    }

    int unload() {
        int went = loads.size();
        loads.clear();
        return went;
    }

    int price(int world, int v) {
        if (out(world, 0, 2) || out(v, 0, 1000)) {
            return BAD;
        }
        int was = prices[world];
        prices[world] = v;
        return was;
    }

    private long bestSilver;
    private int[] bestRow;

    long plan(int s, int what) {
        if (season(s) || out(what, -1, loads.size() - 1)) {
            return BAD_SILVER;
        }
        bestSilver = Long.MIN_VALUE;
        visitPlans(s, 0, new int[loads.size()], new long[3]);
        return what == NONE ? bestSilver : bestRow[what];
    }

    private void visitPlans(int s, int i, int[] row, long[] silver) {
        if (i == row.length) {
            long worst = Math.min(silver[0], Math.min(silver[1], silver[2]));
            if (worst > bestSilver) {
                bestSilver = worst;
                bestRow = row.clone();
            }
            return;
        }
        int[] load = loads.get(i);
        for (int way = 0; way < 3; way++) {
            long left = way == 0 ? wide(load[0], load[1], s) : (long) load[1] * (narrow - 1) / narrow;
            long[] sums = silver.clone();
            for (int world = 0; world < 3; world++) {
                sums[world] += way == 2 ? 0 : left * prices[world] / 100 - load[2];
            }
            row[i] = way;
            visitPlans(s, i + 1, row, sums);
        }
    }

    long part(int what) {
        return what == 0 ? above : what == 1 ? below : -1;
    }

    // ---- images

    private static List<int[]> copied(List<int[]> rows) {
        List<int[]> copy = new ArrayList<>();
        for (int[] row : rows) {
            copy.add(row.clone());
        }
        return copy;
    }

    private void become(Plain other) {
        merchants = copied(other.merchants);
        acts = new ArrayList<>(other.acts);
        debts = copied(other.debts);
        payments = copied(other.payments);
        purses = copied(other.purses);
        shares = copied(other.shares);
        gates = new ArrayList<>(other.gates);
        stones = copied(other.stones);
        told = copied(other.told);
        letters = copied(other.letters);
        mentions = copied(other.mentions);
        loads = copied(other.loads);
        prices = other.prices.clone();
        texts = other.texts.clone();
        narrow = other.narrow;
        names = other.names;
    }

    int image(int i) {
        if (out(i, 0, 1)) {
            return BAD;
        }
        images[i] = new Plain();
        images[i].become(this);
        return 1;
    }

    int from(int i) {
        if (out(i, 0, 1)) {
            return BAD;
        }
        if (images[i] == null) {
            return NO;
        }
        become(images[i]);
        return 1;
    }

    int count(int what) {
        List<List<?>> all = List.of(merchants, acts, debts, payments, purses, gates, stones, told, letters,
                mentions);
        return out(what, 0, 10) ? BAD : what == 10 ? loads.size() : all.get(what).size();
    }

    private long h;

    private void mix(long... row) {
        for (long v : row) {
            h = 31 * h + v;
        }
    }

    private void mix(List<int[]> rows) {
        for (int[] row : rows) {
            for (int v : row) {
                mix(v);
            }
        }
    }

    private void mix(String text) {
        mix(text.length());
        for (char sign : text.toCharArray()) {
            mix(sign);
        }
    }

    long digest() {
        h = 379;
        for (int what = 0; what <= 10; what++) {
            mix(count(what));
        }
        mix(merchants);
        for (Act act : acts) {
            mix(act.sort, act.from);
            mix(act.text);
        }
        mix(debts);
        mix(payments);
        for (int i = 0; i < purses.size(); i++) {
            mix(purses.get(i)[0], purses.get(i)[1], purses.get(i)[2]);
            for (int m = 0; m < merchants.size(); m++) {
                mix(shares.get(i)[m]);
            }
        }
        for (int land : gates) {
            mix(land);
        }
        mix(narrow);
        mix(stones);
        mix(names);
        mix(told);
        mix(letters);
        mix(mentions);
        mix(loads);
        mix(prices[0], prices[1], prices[2]);
        for (String text : texts) {
            mix(text);
        }
        for (int m = 0; m < merchants.size(); m++) {
            mix(balance(m, 99));
        }
        mix(above, below);
        return h;
    }
}
