import java.util.Arrays;

/**
 * The house that sends tin one way and silver the other: its merchants, texts, acts, debts, purses,
 * ways, stones, names of years, letters, mentions, loads and images, as ../shared/DOC.md tells.
 *
 * Every row that a call needs is made once, with the object or with an image first kept, and used
 * again by the calls that follow: what all calls of a run make is counted together.
 */
public final class TinHouse {
    public static final int NONE = -1, BAD = -2, NO = -3, FULL = -4;

    private static final long BAD_TOLD = -2000000000000000000L;
    private static final long NO_TOLD = -3000000000000000000L;
    private static final long BAD_SILVER = -9000000000000000000L;
    private static final int BAD_MEN = -10;
    private static final int BAD_PART = -1;

    private static final int SEASONS = 100;
    private static final int DAYS = 10000;
    private static final int HOUSES = 5;
    private static final int TOWNS = 2;
    private static final int MERCHANTS = 10;
    private static final int TEXTS = 4;
    private static final int TEXT_MOST = 50;
    private static final int CHARACTERS = 128;
    private static final int ACTS = 16;
    private static final int DEBTS = 40;
    private static final int PAYMENTS = 60;
    private static final int PURSES = 3;
    private static final int SHARES = 30;
    private static final int GATES = 6;
    private static final int STONES = 12;
    private static final int NAMES = 9;
    private static final int TOLD = 40;
    private static final int LETTERS = 30;
    private static final int THINGS = 8;
    private static final int MENTIONS = 10;
    private static final int SEALS = 10;
    private static final int LOADS = 6;
    private static final int WORLDS = 3;
    private static final int IMAGES = 2;
    private static final int COUNTS = 11;
    private static final int SHEKELS = 1000000;
    private static final int STONE_MOST = 10000;
    private static final int PUT_MOST = 10000;
    private static final int PARTED_MOST = 100000000;
    private static final int NARROW_LEAST = 2;
    private static final int NARROW_MOST = 100;
    private static final int NARROW_FIRST = 10;
    private static final int PRICE_MOST = 1000;
    private static final long OWED_MOST = 1000000000000L;
    private static final int SEASONS_OF_A_MAN = 40;
    private static final int OPEN_MOST = 8;
    private static final int DIGITS_MOST = 6;

    private static final int TOLL = 0;
    private static final int RATE = 1;
    private static final int SHARE = 2;
    private static final int SORTS = 3;

    // The columns of the tables.
    private static final int HOUSE = 0, TOWN = 1;
    private static final int SORT = 0, FROM = 1, ACT_TEXT = 2;
    private static final int ACT_CODES = ACT_TEXT + 1 + TEXT_MOST;
    private static final int LENDER = 0, OWES = 1, SUM = 2, LENT = 3, DUE = 4, OUTSIDE = 5, BROKEN = 6;
    private static final int PAID_DEBT = 0, PAID_SEASON = 1, PAID_SUM = 2;
    private static final int MANAGER = 0, END = 1, PUT = 2, FIRST_SHARE = 3;
    private static final int STONE_A = 0, STONE_B = 1, STONE_E = 2;
    private static final int AHEAD = 0, BEHIND = 1, KNOWN = 2;
    private static final int WRITER = 0, READER = 1, SENT = 2, COME = 3, THING = 4;
    private static final int MAN_HOUSE = 0, MAN_SEAL = 1, MAN_SEASON = 2;
    private static final int OWNER = 0, WEIGHT = 1, COST = 2;

    // The ways of a load, as the plan tells them.
    private static final int WIDE = 0, NARROW = 1, STAY = 2, WAYS = 3;

    private final House now = new House();
    private final House[] images = new House[IMAGES];
    private final Reader reader = new Reader();
    private final Law law = new Law(now);
    private final Ledger ledger = new Ledger(now, law);
    private final Nets nets = new Nets(now, ledger);
    private final Ways ways = new Ways(now, law);
    private final Years years = new Years(now);
    private final Post post = new Post(now);
    private final Men persons = new Men(now);
    private final Planner planner = new Planner(now, ways);
    private long above = 0;
    private long below = 1;

    public TinHouse() {
    }

    // ---- merchants, texts

    public int merchant(int house, int town) {
        if (isOut(house, 0, HOUSES - 1) || isOut(town, 0, TOWNS - 1)) {
            return BAD;
        }
        if (now.merchants.isFull()) {
            return FULL;
        }
        return now.merchants.add(house, town, 0, 0, 0);
    }

    public int write(int text, int character) {
        if (isOut(text, 0, TEXTS - 1) || isOut(character, 0, CHARACTERS - 1)) {
            return BAD;
        }
        int length = now.texts.get(text, 0);
        if (length >= TEXT_MOST) {
            return FULL;
        }
        now.texts.set(text, 1 + length, character);
        now.texts.set(text, 0, length + 1);
        return length + 1;
    }

    public int erase(int text) {
        if (isOut(text, 0, TEXTS - 1)) {
            return BAD;
        }
        int length = now.texts.get(text, 0);
        now.texts.set(text, 0, 0);
        return length;
    }

    public int fault(int text) {
        return isOut(text, 0, TEXTS - 1) ? BAD : reader.read(now.texts, text);
    }

    public long tells(int text, int g, int k, int t, int s, long w) {
        if (isOut(text, 0, TEXTS - 1) || isOut(g, 0, GATES - 1) || isOut(k, 0, 1)
                || isOut(t, 0, TOWNS - 1) || isOutOfSeasons(s)) {
            return BAD_TOLD;
        }
        if (reader.read(now.texts, text) != NONE) {
            return NO_TOLD;
        }
        law.meet(g, k, t, s, w);
        return law.run(reader.codes, 0, reader.count);
    }

    public int act(int text, int sort, int from) {
        if (isOut(text, 0, TEXTS - 1) || isOut(sort, 0, SORTS - 1) || isOutOfSeasons(from)) {
            return BAD;
        }
        if (reader.read(now.texts, text) != NONE) {
            return NO;
        }
        if (now.acts.isFull()) {
            return FULL;
        }
        int act = now.acts.add(sort, from, 0, 0, 0);
        law.inscribe(act, text, reader);
        return act;
    }

    public int force(int sort, int season) {
        return isOut(sort, 0, SORTS - 1) || isOutOfSeasons(season) ? BAD : law.inForce(sort, season);
    }

    // ---- debts, purses

    public int debt(int lender, int owes, int sum, int lent, int due) {
        if (isNoMerchant(lender) || isNoMerchant(owes) || lender == owes || isOut(sum, 1, SHEKELS)
                || isOutOfSeasons(lent) || isOutOfSeasons(due) || due < lent) {
            return BAD;
        }
        if (now.debts.isFull()) {
            return FULL;
        }
        int debt = now.debts.add(lender, owes, sum, lent, due);
        now.debts.set(debt, OUTSIDE, NONE);
        now.debts.set(debt, BROKEN, NONE);
        return debt;
    }

    public int pay(int debt, int season, int sum) {
        if (isNoDebt(debt) || isOutOfSeasons(season) || isOut(sum, 1, SHEKELS)
                || season < now.debts.get(debt, LENT)) {
            return BAD;
        }
        if (now.payments.isFull()) {
            return FULL;
        }
        return now.payments.add(debt, season, sum, 0, 0) + 1;
    }

    public int seal(int debt, int outside) {
        if (isNoDebt(debt) || isOut(outside, 1, SHEKELS)) {
            return BAD;
        }
        if (now.debts.get(debt, OUTSIDE) != NONE) {
            return NO;
        }
        now.debts.set(debt, OUTSIDE, outside);
        return 1;
    }

    public int breaks(int debt, int season) {
        if (isNoDebt(debt) || isOutOfSeasons(season)) {
            return BAD;
        }
        if (now.debts.get(debt, OUTSIDE) == NONE || now.debts.get(debt, BROKEN) != NONE) {
            return NO;
        }
        now.debts.set(debt, BROKEN, season);
        return 1;
    }

    public long owed(int debt, int season) {
        return isNoDebt(debt) || isOutOfSeasons(season) ? BAD : ledger.left(debt, season);
    }

    public int purse(int manager, int end, int put) {
        if (isNoMerchant(manager) || isOutOfSeasons(end) || isOut(put, 1, PUT_MOST)) {
            return BAD;
        }
        if (now.purses.isFull()) {
            return FULL;
        }
        return now.purses.add(manager, end, put, 0, 0);
    }

    public int share(int purse, int merchant, int n) {
        if (isNoPurse(purse) || isNoMerchant(merchant) || isOut(n, 1, SHARES)) {
            return BAD;
        }
        if (ledger.sharesOfAll(purse) + n > SHARES) {
            return NO;
        }
        int has = now.purses.get(purse, FIRST_SHARE + merchant) + n;
        now.purses.set(purse, FIRST_SHARE + merchant, has);
        return has;
    }

    public int leave(int purse, int merchant, int season) {
        if (isNoPurse(purse) || isNoMerchant(merchant) || isOutOfSeasons(season)
                || season >= now.purses.get(purse, END)) {
            return BAD;
        }
        if (now.purses.get(purse, FIRST_SHARE + merchant) == 0) {
            return NO;
        }
        int takes = ledger.takenBy(purse, merchant, season);
        now.purses.set(purse, FIRST_SHARE + merchant, 0);
        return takes;
    }

    public int parted(int purse, int shekels, int merchant) {
        if (isNoPurse(purse) || isOut(shekels, 0, PARTED_MOST) || isNoMerchant(merchant)) {
            return BAD;
        }
        return ledger.partOf(purse, shekels, merchant);
    }

    // ---- ways, stones

    public int gate(int land) {
        if (isOut(land, 0, TOWNS - 1)) {
            return BAD;
        }
        if (now.gates.isFull()) {
            return FULL;
        }
        return now.gates.add(land, 0, 0, 0, 0) + 1;
    }

    public int wide(int merchant, int weight, int season) {
        return isNoLoad(merchant, weight) || isOutOfSeasons(season)
                ? BAD : ways.leftByGates(merchant, weight, season);
    }

    public int narrow(int n) {
        if (isOut(n, NARROW_LEAST, NARROW_MOST)) {
            return BAD;
        }
        int was = now.narrow;
        now.narrow = n;
        return was;
    }

    public int mean(int weight) {
        if (isOut(weight, 1, SHEKELS)) {
            return BAD;
        }
        setFraction((long) weight * (now.narrow - 1), now.narrow);
        return 1;
    }

    public int better(int merchant, int weight, int season) {
        if (isNoLoad(merchant, weight) || isOutOfSeasons(season)) {
            return BAD;
        }
        long byGates = ways.leftByGates(merchant, weight, season);
        return (long) weight * (now.narrow - 1) > byGates * now.narrow ? 1 : 0;
    }

    public int stone(int a, int b, int e) {
        if (isOut(a, 1, STONE_MOST) || isOut(b, 1, STONE_MOST) || isOut(e, 0, b - 1)) {
            return BAD;
        }
        if (now.stones.isFull()) {
            return FULL;
        }
        return now.stones.add(a, b, e, 0, 0) + 1;
    }

    public int span(int x, int which) {
        if (isOut(x, 1, SHEKELS) || isOut(which, 0, 1)) {
            return BAD;
        }
        if (!ways.stonesMeet()) {
            return 0;
        }
        int stone = which == 0 ? ways.highestLower() : ways.lowestUpper();
        long b = which == 0 ? ways.lowerOf(stone) : ways.upperOf(stone);
        setFraction(x * b, now.stones.get(stone, STONE_A));
        return 1;
    }

    // ---- nets

    public long balance(int merchant, int season) {
        if (isNoMerchant(merchant) || isOutOfSeasons(season)) {
            return BAD_SILVER;
        }
        nets.weigh(season);
        return nets.of(merchant);
    }

    public int fewest(int season) {
        if (isOutOfSeasons(season)) {
            return BAD;
        }
        nets.weigh(season);
        return nets.fewestPayments();
    }

    public int ring(int season, int what) {
        if (isOutOfSeasons(season) || what < NONE) {
            return BAD;
        }
        nets.weigh(season);
        int length = nets.layRing();
        if (what == NONE) {
            return length;
        }
        return what < length ? nets.inRing(what) : NONE;
    }

    // ---- names, letters, men

    public int names(int n) {
        if (isOut(n, 1, NAMES)) {
            return BAD;
        }
        now.names = n;
        now.told.clear();
        return 1;
    }

    public int ahead(int a, int b, int known) {
        if (isNoName(a) || isNoName(b) || a == b || isOut(known, 0, SEASONS - 1)) {
            return BAD;
        }
        if (now.told.isFull()) {
            return FULL;
        }
        return now.told.add(a, b, known, 0, 0) + 1;
    }

    public int orders(int k) {
        if (isOut(k, 0, SEASONS - 1)) {
            return BAD;
        }
        years.know(k);
        return years.countOrders();
    }

    public int place(int name, int k, int which) {
        if (isNoName(name) || isOut(k, 0, SEASONS - 1) || isOut(which, 0, 1)) {
            return BAD;
        }
        years.know(k);
        if (!years.layFirstOrder()) {
            return NONE;
        }
        return which == 0 ? years.countAhead(name) : now.names - 1 - years.countBehind(name);
    }

    public int order(int k, int i) {
        if (isOut(k, 0, SEASONS - 1) || isNoName(i)) {
            return BAD;
        }
        years.know(k);
        return years.layFirstOrder() ? years.nameAt(i) : NONE;
    }

    public int letter(int from, int to, int sent, int come, int thing) {
        if (isNoMerchant(from) || isNoMerchant(to) || from == to || isOut(sent, 0, DAYS - 1)
                || isOut(come, sent, DAYS - 1) || isOut(thing, NONE, THINGS - 1)) {
            return BAD;
        }
        if (now.letters.isFull()) {
            return FULL;
        }
        return now.letters.add(from, to, sent, come, thing);
    }

    public int knows(int merchant, int thing, int day) {
        if (isNoMerchant(merchant) || isOut(thing, 0, THINGS - 1) || isOut(day, 0, DAYS - 1)) {
            return BAD;
        }
        post.fill();
        return post.knownTo(merchant, day) >> thing & 1;
    }

    public int carries(int letter) {
        if (isOut(letter, 0, now.letters.rows - 1)) {
            return BAD;
        }
        post.fill();
        return post.carriedBy(letter);
    }

    public int mention(int house, int seal, int season) {
        if (isOut(house, NONE, HOUSES - 1) || isOut(seal, NONE, SEALS - 1) || isOutOfSeasons(season)) {
            return BAD;
        }
        if (now.mentions.isFull()) {
            return FULL;
        }
        return now.mentions.add(house, seal, season, 0, 0);
    }

    public int men(int what) {
        if (isOut(what, NONE, now.mentions.rows - 1)) {
            return BAD_MEN;
        }
        int sets = persons.tellApart();
        return what == NONE ? sets : persons.leastOf(what);
    }

    // ---- plans

    public int load(int merchant, int weight, int cost) {
        if (isNoLoad(merchant, weight) || isOut(cost, 0, SHEKELS)) {
            return BAD;
        }
        if (now.loads.isFull()) {
            return FULL;
        }
        return now.loads.add(merchant, weight, cost, 0, 0);
    }

    public int unload() {
        int went = now.loads.rows;
        now.loads.clear();
        return went;
    }

    public int price(int world, int v) {
        if (isOut(world, 0, WORLDS - 1) || isOut(v, 0, PRICE_MOST)) {
            return BAD;
        }
        int was = now.prices.get(0, world);
        now.prices.set(0, world, v);
        return was;
    }

    public long plan(int season, int what) {
        if (isOutOfSeasons(season) || isOut(what, NONE, now.loads.rows - 1)) {
            return BAD_SILVER;
        }
        planner.value(season);
        planner.choose();
        return what == NONE ? planner.best : planner.wayOf(planner.bestPlan, what);
    }

    public long part(int what) {
        if (isOut(what, 0, 1)) {
            return BAD_PART;
        }
        return what == 0 ? above : below;
    }

    // ---- images

    public int image(int i) {
        if (isOut(i, 0, images.length - 1)) {
            return BAD;
        }
        House kept = images[i];
        if (kept == null) {
            kept = new House();
            images[i] = kept;
        }
        kept.become(now);
        return 1;
    }

    public int from(int i) {
        if (isOut(i, 0, images.length - 1)) {
            return BAD;
        }
        House kept = images[i];
        if (kept == null) {
            return NO;
        }
        now.become(kept);
        return 1;
    }

    public int count(int what) {
        return isOut(what, 0, COUNTS - 1) ? BAD : now.howMany(what);
    }

    public long digest() {
        long h = 379;
        for (int what = 0; what < COUNTS; what++) {
            h = 31 * h + now.howMany(what);
        }
        h = now.mixPeople(h);
        h = now.mixTrade(h);
        nets.weigh(SEASONS - 1);
        for (int merchant = 0; merchant < now.merchants.rows; merchant++) {
            h = 31 * h + nets.of(merchant);
        }
        h = 31 * h + above;
        return 31 * h + below;
    }

    // ---- what is asked of numbers

    private static boolean isOut(int v, int least, int most) {
        return v < least || v > most;
    }

    private static boolean isOutOfSeasons(int season) {
        return isOut(season, 0, SEASONS - 1);
    }

    private boolean isNoMerchant(int merchant) {
        return isOut(merchant, 0, now.merchants.rows - 1);
    }

    private boolean isNoDebt(int debt) {
        return isOut(debt, 0, now.debts.rows - 1);
    }

    private boolean isNoPurse(int purse) {
        return isOut(purse, 0, now.purses.rows - 1);
    }

    private boolean isNoName(int name) {
        return isOut(name, 0, now.names - 1);
    }

    private boolean isNoLoad(int merchant, int weight) {
        return isNoMerchant(merchant) || isOut(weight, 1, SHEKELS);
    }

    private void setFraction(long over, long under) {
        long divisor = greatestDivisor(over, under);
        if (divisor > 0) {
            above = over / divisor;
            below = under / divisor;
        }
    }

    private static long greatestDivisor(long a, long b) {
        long big = a;
        long small = b;
        for (int i = 0; i < 1000 && small != 0; i++) {
            long rest = big % small;
            big = small;
            small = rest;
        }
        return big;
    }

    /** Rows of numbers in the order in which they came, up to a limit. */
    private static final class Table {
        final int width;
        final int limit;
        final int[] cells;
        int rows;

        Table(int limit, int width) {
            this.limit = limit;
            this.width = width;
            this.cells = new int[Math.max(0, limit * width)];
        }

        boolean isFull() {
            return rows >= limit;
        }

        int get(int row, int column) {
            int at = placeOf(row, column);
            return at >= 0 && at < cells.length ? cells[at] : 0;
        }

        void set(int row, int column, int v) {
            int at = placeOf(row, column);
            if (at >= 0 && at < cells.length) {
                cells[at] = v;
            }
        }

        int placeOf(int row, int column) {
            boolean isThere = row >= 0 && row < rows && column >= 0 && column < width;
            return isThere ? row * width + column : NONE;
        }

        /** A new row of these, as many as are columns, and 0 in all columns behind. */
        int add(int a, int b, int c, int d, int e) {
            if (isFull()) {
                return NONE;
            }
            int row = rows;
            rows = row + 1;
            set(row, 0, a);
            set(row, 1, b);
            set(row, 2, c);
            set(row, 3, d);
            set(row, 4, e);
            for (int column = 5; column < width; column++) {
                set(row, column, 0);
            }
            return row;
        }

        void clear() {
            rows = 0;
        }

        void become(Table other) {
            int used = Math.min(other.rows * other.width, Math.min(other.cells.length, cells.length));
            System.arraycopy(other.cells, 0, cells, 0, Math.max(0, used));
            rows = other.rows;
        }

        /** The digest h with the first columns of all rows behind it. */
        long mixAll(long h, int columns) {
            long mixed = h;
            for (int row = 0; row < rows; row++) {
                mixed = mixRow(mixed, row, columns);
            }
            return mixed;
        }

        /** As mixAll, where a column tells how many more behind it count. */
        long mixTexts(long h, int lengthColumn) {
            long mixed = h;
            for (int row = 0; row < rows; row++) {
                mixed = mixRow(mixed, row, lengthColumn + 1 + get(row, lengthColumn));
            }
            return mixed;
        }

        long mixRow(long h, int row, int columns) {
            long mixed = h;
            for (int column = 0; column < columns && column < width; column++) {
                mixed = 31 * mixed + get(row, column);
            }
            return mixed;
        }
    }

    /** All that an image keeps. */
    private static final class House {
        final Table merchants = new Table(MERCHANTS, 2);
        final Table texts = new Table(TEXTS, 1 + TEXT_MOST);
        final Table acts = new Table(ACTS, ACT_CODES + 1 + TEXT_MOST);
        final Table debts = new Table(DEBTS, 7);
        final Table payments = new Table(PAYMENTS, 3);
        final Table purses = new Table(PURSES, FIRST_SHARE + MERCHANTS);
        final Table gates = new Table(GATES, 1);
        final Table stones = new Table(STONES, 3);
        final Table told = new Table(TOLD, 3);
        final Table letters = new Table(LETTERS, 5);
        final Table mentions = new Table(MENTIONS, 3);
        final Table loads = new Table(LOADS, 3);
        final Table prices = new Table(1, WORLDS);
        int narrow = NARROW_FIRST;
        int names = NAMES;

        House() {
            prices.add(0, 0, 0, 0, 0);
            for (int text = 0; text < TEXTS; text++) {
                texts.add(0, 0, 0, 0, 0);
            }
        }

        void become(House other) {
            merchants.become(other.merchants);
            texts.become(other.texts);
            acts.become(other.acts);
            debts.become(other.debts);
            payments.become(other.payments);
            purses.become(other.purses);
            gates.become(other.gates);
            stones.become(other.stones);
            told.become(other.told);
            letters.become(other.letters);
            mentions.become(other.mentions);
            loads.become(other.loads);
            prices.become(other.prices);
            narrow = other.narrow;
            names = other.names;
        }

        int howMany(int what) {
            switch (what) {
                case 0: return merchants.rows;
                case 1: return acts.rows;
                case 2: return debts.rows;
                case 3: return payments.rows;
                case 4: return purses.rows;
                case 5: return gates.rows;
                case 6: return stones.rows;
                case 7: return told.rows;
                case 8: return letters.rows;
                case 9: return mentions.rows;
                case 10: return loads.rows;
                default: return BAD;
            }
        }

        /** The first half of the digest's row, up to what the purses hold. */
        long mixPeople(long h) {
            long mixed = merchants.mixAll(h, 2);
            mixed = acts.mixTexts(mixed, ACT_TEXT);
            mixed = debts.mixAll(mixed, 7);
            mixed = payments.mixAll(mixed, 3);
            return purses.mixAll(mixed, FIRST_SHARE + merchants.rows);
        }

        /** The second half, from the gates to the texts. */
        long mixTrade(long h) {
            long mixed = gates.mixAll(h, 1);
            mixed = 31 * mixed + narrow;
            mixed = stones.mixAll(mixed, 3);
            mixed = 31 * mixed + names;
            mixed = told.mixAll(mixed, 3);
            mixed = letters.mixAll(mixed, 5);
            mixed = mentions.mixAll(mixed, 3);
            mixed = loads.mixAll(mixed, 3);
            mixed = prices.mixAll(mixed, WORLDS);
            return texts.mixTexts(mixed, 0);
        }

        int kin(int one, int other) {
            return merchants.get(one, HOUSE) == merchants.get(other, HOUSE) ? 1 : 0;
        }
    }

    /**
     * Reads a text once, from its first character to its last, into codes in the order in which they
     * are worked: a number is its own code, all else is a sign with minus ahead. Signs wait until what
     * they join is read; so no call stands open within another one, however deep a text is.
     */
    private static final class Reader {
        /** Codes for what has no sign of its own: minus ahead of a unit, and a whole ? : . */
        static final int NEGATE = '~';
        static final int SELECT = '?';

        /** The ranks: a sign that comes lets go those of its own rank and above that wait. */
        private static final int SELECTS = 1, EITHERS = 2, BOTHS = 3, HOLDS = 4, SUMS = 5, TERMS = 6, UNITS = 7;

        final int[] codes = new int[TEXT_MOST];
        int count;
        private final int[] waiting = new int[TEXT_MOST];
        private int waits;
        private int open;
        private boolean unitIsDue;
        private int digits;
        private int firstDigit;
        private int number;
        private int fault;

        /** The text's fault; NONE, and its codes stand, where it has none. */
        int read(Table texts, int text) {
            count = 0;
            waits = 0;
            open = 0;
            unitIsDue = true;
            digits = 0;
            fault = NONE;
            int length = texts.get(text, 0);
            for (int i = 0; i < length && fault == NONE; i++) {
                take(i, texts.get(text, 1 + i));
            }
            if (fault == NONE) {
                end(length);
            }
            return fault;
        }

        private void take(int i, int sign) {
            if (sign >= '0' && sign <= '9') {
                takeDigit(i, sign - '0');
                return;
            }
            endNumber();
            if (sign == ' ') {
                return;
            }
            if (unitIsDue) {
                takeUnit(i, sign);
            } else {
                takeJoint(i, sign);
            }
        }

        private void takeDigit(int i, int digit) {
            if (digits == 0 && !unitIsDue) {
                fault = 10 * i + 1;
            } else if (digits == DIGITS_MOST) {
                fault = 10 * firstDigit + 2;
            } else {
                firstDigit = digits == 0 ? i : firstDigit;
                number = digits == 0 ? digit : 10 * number + digit;
                digits++;
                unitIsDue = false;
            }
        }

        private void endNumber() {
            if (digits > 0) {
                put(number);
                digits = 0;
            }
        }

        private void takeUnit(int i, int sign) {
            switch (sign) {
                case 'g':
                case 'k':
                case 't':
                case 's':
                case 'w':
                    put(-sign);
                    unitIsDue = false;
                    break;
                case '!':
                    push(sign);
                    break;
                case '-':
                    push(NEGATE);
                    break;
                case '(':
                    openOne(i);
                    break;
                default:
                    fault = 10 * i + 1;
                    break;
            }
        }

        private void openOne(int i) {
            if (open == OPEN_MOST) {
                fault = 10 * i + 3;
            } else {
                open++;
                push('(');
            }
        }

        private void takeJoint(int i, int sign) {
            if (sign == ')') {
                closeOne(i);
            } else if (sign == ':') {
                turn(i);
            } else if (sign == '?') {
                release(EITHERS);
                push(sign);
                unitIsDue = true;
            } else {
                join(i, sign);
            }
        }

        private void closeOne(int i) {
            release(SELECTS);
            if (top() == '(') {
                waits--;
                open--;
            } else {
                fault = 10 * i + 1;
            }
        }

        private void turn(int i) {
            release(SELECTS);
            if (top() == '?') {
                waits--;
                push(':');
                unitIsDue = true;
            } else {
                fault = 10 * i + 1;
            }
        }

        private void join(int i, int sign) {
            int rank = rank(sign);
            if (rank <= SELECTS || rank >= UNITS) {
                fault = 10 * i + 1;
                return;
            }
            release(rank == HOLDS ? HOLDS + 1 : rank);
            if (rank == HOLDS && rank(top()) == HOLDS) {
                fault = 10 * i + 1;
                return;
            }
            push(sign);
            unitIsDue = true;
        }

        private void end(int length) {
            endNumber();
            release(SELECTS);
            if (unitIsDue || waits > 0) {
                fault = 10 * length + 1;
            }
        }

        private static int rank(int sign) {
            switch (sign) {
                case ':': return SELECTS;
                case '|': return EITHERS;
                case '&': return BOTHS;
                case '<':
                case '>':
                case '=': return HOLDS;
                case '+':
                case '-': return SUMS;
                case '*':
                case '/': return TERMS;
                case '!':
                case NEGATE: return UNITS;
                default: return 0;
            }
        }

        /** What waits at or above a rank has all that it joins: it is put down. */
        private void release(int rank) {
            for (int i = 0; i < waiting.length && rank(top()) >= rank; i++) {
                int sign = top();
                put(sign == ':' ? -SELECT : -sign);
                waits--;
            }
        }

        private int top() {
            return waits > 0 && waits <= waiting.length ? waiting[waits - 1] : 0;
        }

        private void push(int sign) {
            if (waits >= 0 && waits < waiting.length) {
                waiting[waits] = sign;
                waits++;
            }
        }

        private void put(int code) {
            if (count >= 0 && count < codes.length) {
                codes[count] = code;
                count++;
            }
        }
    }

    /** The acts: which is in force, and what a text tells by its codes. */
    private static final class Law {
        /** What holds without an act, and what at most, by sort. */
        private static final int[] USUAL = {5, 30, 100};
        private static final int[] MOST = {100, 1000, 200};

        private final House house;
        private final long[] stack = new long[TEXT_MOST];
        private int height;
        private int gate;
        private int kin;
        private int town;
        private int season;
        private long about;

        Law(House house) {
            this.house = house;
        }

        /** An act keeps the text as it is then, and its codes, so that it is read but once. */
        void inscribe(int act, int text, Reader reader) {
            int length = house.texts.get(text, 0);
            house.acts.set(act, ACT_TEXT, length);
            for (int i = 1; i <= length; i++) {
                house.acts.set(act, ACT_TEXT + i, house.texts.get(text, i));
            }
            house.acts.set(act, ACT_CODES, reader.count);
            for (int i = 0; i < reader.count && i < reader.codes.length; i++) {
                house.acts.set(act, ACT_CODES + 1 + i, reader.codes[i]);
            }
        }

        int inForce(int sort, int season) {
            int found = NONE;
            int latest = NONE;
            for (int act = 0; act < house.acts.rows; act++) {
                int from = house.acts.get(act, FROM);
                if (house.acts.get(act, SORT) == sort && from <= season && from >= latest) {
                    found = act;
                    latest = from;
                }
            }
            return found;
        }

        /** What the act in force tells, brought within its sort's bounds. */
        long said(int sort, int season, int g, int k, int t, long w) {
            if (sort < 0 || sort >= USUAL.length || sort >= MOST.length) {
                return 0;
            }
            int act = inForce(sort, season);
            if (act == NONE) {
                return USUAL[sort];
            }
            meet(g, k, t, season, w);
            int first = house.acts.placeOf(act, ACT_CODES + 1);
            long told = run(house.acts.cells, first, house.acts.get(act, ACT_CODES));
            return Math.max(0L, Math.min(told, MOST[sort]));
        }

        void meet(int g, int k, int t, int s, long w) {
            gate = g;
            kin = k;
            town = t;
            season = s;
            about = w;
        }

        long run(int[] codes, int first, int count) {
            height = 0;
            if (codes == null) {
                return 0;
            }
            for (int i = 0; i < count; i++) {
                int at = first + i;
                if (at >= 0 && at < codes.length) {
                    work(codes[at]);
                }
            }
            return pop();
        }

        private void work(int code) {
            if (code >= 0) {
                push(code);
                return;
            }
            switch (-code) {
                case 'g':
                    push(gate);
                    break;
                case 'k':
                    push(kin);
                    break;
                case 't':
                    push(town);
                    break;
                case 's':
                    push(season);
                    break;
                case 'w':
                    push(about);
                    break;
                case '!':
                    push(pop() == 0 ? 1 : 0);
                    break;
                case Reader.NEGATE:
                    push(-pop());
                    break;
                case Reader.SELECT:
                    long otherwise = pop();
                    long then = pop();
                    push(pop() != 0 ? then : otherwise);
                    break;
                default:
                    long b = pop();
                    push(joined(-code, pop(), b));
                    break;
            }
        }

        private static long joined(int sign, long a, long b) {
            switch (sign) {
                case '|': return a != 0 || b != 0 ? 1 : 0;
                case '&': return a != 0 && b != 0 ? 1 : 0;
                case '<': return a < b ? 1 : 0;
                case '>': return a > b ? 1 : 0;
                case '=': return a == b ? 1 : 0;
                case '+': return a + b;
                case '-': return a - b;
                case '*': return a * b;
                case '/': return b == 0 ? 0 : a / b;
                default: return 0;
            }
        }

        private void push(long v) {
            if (height >= 0 && height < stack.length) {
                stack[height] = v;
                height++;
            }
        }

        private long pop() {
            if (height <= 0 || height > stack.length) {
                return 0;
            }
            height--;
            return stack[height];
        }
    }

    /** What is left of debts, and what purses give. */
    private static final class Ledger {
        private final House house;
        private final Law law;
        private final long[] paid = new long[SEASONS];

        Ledger(House house, Law law) {
            this.house = house;
            this.law = law;
        }

        long left(int debt, int season) {
            Table debts = house.debts;
            int lent = debts.get(debt, LENT);
            if (season < lent) {
                return 0;
            }
            int kin = house.kin(debts.get(debt, LENDER), debts.get(debt, OWES));
            int town = house.merchants.get(debts.get(debt, OWES), TOWN);
            int due = debts.get(debt, DUE);
            gather(debt);
            long left = sumLent(debt, season);
            for (int s = Math.max(0, lent); s <= season && s < paid.length && left > 0; s++) {
                left -= Math.min(left, paid[s]);
                if (s > due && left > 0) {
                    long rate = law.said(RATE, s, 0, kin, town, left);
                    left = Math.min(OWED_MOST, left + left * rate / 1000);
                }
            }
            return left;
        }

        /** An envelope's outside counts in all that is asked of seasons ahead of its breaking. */
        private long sumLent(int debt, int season) {
            int outside = house.debts.get(debt, OUTSIDE);
            int broken = house.debts.get(debt, BROKEN);
            boolean isClosed = outside != NONE && (broken == NONE || season < broken);
            return isClosed ? outside : house.debts.get(debt, SUM);
        }

        private void gather(int debt) {
            Arrays.fill(paid, 0L);
            for (int payment = 0; payment < house.payments.rows; payment++) {
                int season = house.payments.get(payment, PAID_SEASON);
                if (house.payments.get(payment, PAID_DEBT) == debt && season >= 0 && season < paid.length) {
                    paid[season] += house.payments.get(payment, PAID_SUM);
                }
            }
        }

        int sharesOfAll(int purse) {
            int all = 0;
            for (int merchant = 0; merchant < house.merchants.rows; merchant++) {
                all += house.purses.get(purse, FIRST_SHARE + merchant);
            }
            return all;
        }

        int takenBy(int purse, int merchant, int season) {
            long put = (long) house.purses.get(purse, FIRST_SHARE + merchant) * house.purses.get(purse, PUT);
            int kin = house.kin(merchant, house.purses.get(purse, MANAGER));
            int town = house.merchants.get(merchant, TOWN);
            return (int) (put * law.said(SHARE, season, 0, kin, town, put) / 100);
        }

        int partOf(int purse, int shekels, int merchant) {
            int third = shekels / 3;
            int rest = shekels - third;
            int all = sharesOfAll(purse);
            int part = byShares(purse, merchant, rest, all);
            if (merchant != house.purses.get(purse, MANAGER)) {
                return part;
            }
            int over = rest;
            for (int other = 0; other < house.merchants.rows; other++) {
                over -= byShares(purse, other, rest, all);
            }
            return third + part + over;
        }

        private int byShares(int purse, int merchant, int rest, int all) {
            long has = house.purses.get(purse, FIRST_SHARE + merchant);
            return all > 0 ? (int) (rest * has / all) : 0;
        }
    }

    /** Balances of a season, and who owes whom in it. */
    private static final class Nets {
        private final House house;
        private final Ledger ledger;
        private final long[] balances = new long[MERCHANTS];
        private final long[] pairs = new long[MERCHANTS * MERCHANTS];
        private final long[] uneven = new long[MERCHANTS];
        private final long[] sums = new long[1 << MERCHANTS];
        private final int[] sets = new int[1 << MERCHANTS];
        private final int[] steps = new int[MERCHANTS];
        private final int[] ring = new int[MERCHANTS];

        Nets(House house, Ledger ledger) {
            this.house = house;
            this.ledger = ledger;
        }

        void weigh(int season) {
            Arrays.fill(balances, 0L);
            Arrays.fill(pairs, 0L);
            for (int debt = 0; debt < house.debts.rows; debt++) {
                long left = ledger.left(debt, season);
                int lender = house.debts.get(debt, LENDER);
                int owes = house.debts.get(debt, OWES);
                book(lender, left);
                book(owes, -left);
                int pair = pairOf(owes, lender);
                if (pair >= 0 && pair < pairs.length) {
                    pairs[pair] += left;
                }
            }
        }

        private void book(int merchant, long v) {
            if (merchant >= 0 && merchant < balances.length) {
                balances[merchant] += v;
            }
        }

        private static int pairOf(int owes, int lender) {
            boolean isThere = owes >= 0 && owes < MERCHANTS && lender >= 0 && lender < MERCHANTS;
            return isThere ? owes * MERCHANTS + lender : NONE;
        }

        private boolean isOwing(int owes, int lender) {
            int pair = pairOf(owes, lender);
            return pair >= 0 && pair < pairs.length && pairs[pair] > 0;
        }

        long of(int merchant) {
            return merchant >= 0 && merchant < balances.length ? balances[merchant] : 0;
        }

        /** All together sum to 0, so the parts of the set of all leave nobody over. */
        int fewestPayments() {
            int n = gatherUneven();
            int all = (1 << n) - 1;
            for (int set = 1; set <= all; set++) {
                weighSet(set, n);
            }
            return all >= 0 && all < sets.length ? n - sets[all] : 0;
        }

        /** The most parts of a set that sum to 0, by whoever comes last, and what it sums to itself. */
        private void weighSet(int set, int n) {
            if (set < 0 || set >= sums.length || set >= sets.length) {
                return;
            }
            int most = 0;
            for (int i = 0; i < n && i < uneven.length; i++) {
                int others = set & ~(1 << i);
                if (others >= 0 && others < set) {
                    sums[set] = sums[others] + uneven[i];
                    most = Math.max(most, sets[others]);
                }
            }
            sets[set] = most + (sums[set] == 0 ? 1 : 0);
        }

        private int gatherUneven() {
            int n = 0;
            for (int merchant = 0; merchant < balances.length; merchant++) {
                if (balances[merchant] != 0 && n < uneven.length) {
                    uneven[n] = balances[merchant];
                    n++;
                }
            }
            return n;
        }

        /** Lays the shortest ring, of like ones the first row; how many are in it, 0 for none. */
        int layRing() {
            int best = 0;
            for (int start = 0; start < house.merchants.rows; start++) {
                int length = lengthFrom(start);
                if (length > 0 && (best == 0 || length < best)) {
                    best = length;
                    follow(start, length);
                }
            }
            return best;
        }

        int inRing(int i) {
            return i >= 0 && i < ring.length ? ring[i] : NONE;
        }

        /** How many are in the shortest ring whose least merchant is start. */
        private int lengthFrom(int start) {
            Arrays.fill(steps, 0);
            for (int step = 1; step < steps.length; step++) {
                for (int merchant = start + 1; merchant < steps.length; merchant++) {
                    if (merchant >= 0 && steps[merchant] == 0 && isNear(merchant, start, step)) {
                        steps[merchant] = step;
                    }
                }
            }
            int length = 0;
            for (int next = start + 1; next < steps.length; next++) {
                if (next >= 0 && steps[next] > 0 && isOwing(start, next)) {
                    length = length == 0 ? steps[next] + 1 : Math.min(length, steps[next] + 1);
                }
            }
            return length;
        }

        /** Whether a merchant comes to start in so many steps by merchants above it. */
        private boolean isNear(int merchant, int start, int step) {
            if (step == 1) {
                return isOwing(merchant, start);
            }
            for (int next = start + 1; next < steps.length; next++) {
                if (next >= 0 && steps[next] == step - 1 && isOwing(merchant, next)) {
                    return true;
                }
            }
            return false;
        }

        private void follow(int start, int length) {
            int at = start;
            for (int i = 0; i < length && i < ring.length; i++) {
                ring[i] = at;
                at = firstStep(at, start, length - i - 1);
            }
        }

        private int firstStep(int at, int start, int step) {
            for (int next = start + 1; next < steps.length; next++) {
                if (next >= 0 && steps[next] == step && isOwing(at, next)) {
                    return next;
                }
            }
            return start;
        }
    }

    /** The two ways for tin, and the stones that weigh it. */
    private static final class Ways {
        private final House house;
        private final Law law;

        Ways(House house, Law law) {
            this.house = house;
            this.law = law;
        }

        int leftByGates(int merchant, int weight, int season) {
            int town = house.merchants.get(merchant, TOWN);
            long left = weight;
            for (int gate = 0; gate < house.gates.rows; gate++) {
                int land = house.gates.get(gate, 0);
                long toll = law.said(TOLL, season, gate, town == land ? 1 : 0, land, left);
                left -= left * toll / 100;
            }
            return (int) left;
        }

        int leftByLuck(int weight) {
            int n = house.narrow;
            return n > 0 ? (int) ((long) weight * (n - 1) / n) : 0;
        }

        long lowerOf(int stone) {
            return house.stones.get(stone, STONE_B) - house.stones.get(stone, STONE_E);
        }

        long upperOf(int stone) {
            return house.stones.get(stone, STONE_B) + house.stones.get(stone, STONE_E);
        }

        int highestLower() {
            int best = 0;
            for (int stone = 1; stone < house.stones.rows; stone++) {
                if (isAbove(lowerOf(stone), stone, lowerOf(best), best)) {
                    best = stone;
                }
            }
            return best;
        }

        int lowestUpper() {
            int best = 0;
            for (int stone = 1; stone < house.stones.rows; stone++) {
                if (isAbove(upperOf(best), best, upperOf(stone), stone)) {
                    best = stone;
                }
            }
            return best;
        }

        boolean stonesMeet() {
            int lower = highestLower();
            int upper = lowestUpper();
            return house.stones.rows > 0 && !isAbove(lowerOf(lower), lower, upperOf(upper), upper);
        }

        /** Whether b by the a of one stone is above other by the a of another one. */
        private boolean isAbove(long b, int stone, long other, int otherStone) {
            return b * house.stones.get(otherStone, STONE_A) > other * house.stones.get(stone, STONE_A);
        }
    }

    /** The order of the names of years, by what is known. */
    private static final class Years {
        private final House house;
        /** Bits of the names ahead of a name: as told, then by all that follows from it. */
        private final int[] ahead = new int[NAMES];
        private final int[] row = new int[NAMES];
        private final int[] found = new int[1 << NAMES];

        Years(House house) {
            this.house = house;
        }

        void know(int k) {
            Arrays.fill(ahead, 0);
            for (int i = 0; i < house.told.rows; i++) {
                int behind = house.told.get(i, BEHIND);
                if (house.told.get(i, KNOWN) <= k && behind >= 0 && behind < ahead.length) {
                    ahead[behind] |= 1 << house.told.get(i, AHEAD);
                }
            }
            for (int by = 0; by < ahead.length; by++) {
                for (int name = 0; name < ahead.length; name++) {
                    if ((ahead[name] >> by & 1) == 1) {
                        ahead[name] |= ahead[by];
                    }
                }
            }
        }

        /** For each set of names in how many orders it can come first. */
        int countOrders() {
            int all = Math.min(1 << house.names, found.length);
            for (int set = 0; set < all; set++) {
                int orders = set == 0 ? 1 : 0;
                for (int name = 0; name < house.names; name++) {
                    int others = set & ~(1 << name);
                    if (others != set && others >= 0 && others < found.length && isNext(name, others)) {
                        orders += found[others];
                    }
                }
                found[set] = orders;
            }
            return all > 0 && all <= found.length ? found[all - 1] : 0;
        }

        /** Whether all that are ahead of a name are in the set. */
        private boolean isNext(int name, int set) {
            return name >= 0 && name < ahead.length && (ahead[name] & ~set) == 0;
        }

        boolean layFirstOrder() {
            int set = 0;
            for (int i = 0; i < house.names && i < row.length; i++) {
                int name = firstNext(set);
                if (name == NONE) {
                    return false;
                }
                row[i] = name;
                set |= 1 << name;
            }
            return true;
        }

        private int firstNext(int set) {
            for (int name = 0; name < house.names; name++) {
                if ((set >> name & 1) == 0 && isNext(name, set)) {
                    return name;
                }
            }
            return NONE;
        }

        int nameAt(int i) {
            return i >= 0 && i < row.length ? row[i] : NONE;
        }

        int countAhead(int name) {
            return name >= 0 && name < ahead.length ? Integer.bitCount(ahead[name]) : 0;
        }

        int countBehind(int name) {
            int behind = 0;
            for (int other = 0; other < house.names && other < ahead.length; other++) {
                behind += ahead[other] >> name & 1;
            }
            return behind;
        }
    }

    /** The letters on the way, and what each carries. */
    private static final class Post {
        private final House house;
        private final int[] carried = new int[LETTERS];

        Post(House house) {
            this.house = house;
        }

        /** Letters of one day may come in a circle: all are filled until none gains any more. */
        void fill() {
            Arrays.fill(carried, 0);
            boolean gains = true;
            for (int round = 0; round < LETTERS * THINGS + 1 && gains; round++) {
                gains = false;
                for (int letter = 0; letter < house.letters.rows && letter < carried.length; letter++) {
                    int writer = house.letters.get(letter, WRITER);
                    int known = knownTo(writer, house.letters.get(letter, SENT));
                    gains = gains || known != carried[letter];
                    carried[letter] = known;
                }
            }
        }

        int knownTo(int merchant, int day) {
            int known = 0;
            for (int letter = 0; letter < house.letters.rows; letter++) {
                if (house.letters.get(letter, WRITER) == merchant && house.letters.get(letter, SENT) <= day) {
                    int thing = house.letters.get(letter, THING);
                    known |= thing == NONE ? 0 : 1 << thing;
                }
                if (house.letters.get(letter, READER) == merchant && house.letters.get(letter, COME) <= day) {
                    known |= carriedBy(letter);
                }
            }
            return known;
        }

        int carriedBy(int letter) {
            return letter >= 0 && letter < carried.length ? carried[letter] : 0;
        }
    }

    /** Mentions, and the fewest men that they can be of. */
    private static final class Men {
        private final House house;
        /** Bits of the mentions that may be of one man with a mention. */
        private final int[] alike = new int[MENTIONS];
        /** Bits of the mentions in a set, at the place of its least. */
        private final int[] members = new int[MENTIONS];
        private final int[] least = new int[MENTIONS];

        Men(House house) {
            this.house = house;
        }

        /** The first row with no more sets than the fewest, found by allowing one set more each time. */
        int tellApart() {
            compare();
            for (int most = 0; most <= MENTIONS; most++) {
                Arrays.fill(members, 0);
                if (settle(0, most)) {
                    return most;
                }
            }
            return MENTIONS;
        }

        int leastOf(int mention) {
            return mention >= 0 && mention < least.length ? least[mention] : NONE;
        }

        private void compare() {
            for (int one = 0; one < alike.length; one++) {
                alike[one] = 0;
                for (int other = 0; other < house.mentions.rows; other++) {
                    alike[one] |= isOneMan(one, other) ? 1 << other : 0;
                }
            }
        }

        private boolean isOneMan(int one, int other) {
            int apart = house.mentions.get(one, MAN_SEASON) - house.mentions.get(other, MAN_SEASON);
            return agree(one, other, MAN_HOUSE) && agree(one, other, MAN_SEAL)
                    && Math.abs(apart) <= SEASONS_OF_A_MAN;
        }

        private boolean agree(int one, int other, int column) {
            int a = house.mentions.get(one, column);
            int b = house.mentions.get(other, column);
            return a == NONE || b == NONE || a == b;
        }

        /** Puts the mentions from one on into sets, opening so many at most; calls itself ten deep. */
        private boolean settle(int mention, int opens) {
            if (mention >= house.mentions.rows || mention >= members.length || mention >= least.length) {
                return true;
            }
            if (mention < 0 || opens < 0) {
                return false;
            }
            for (int set = 0; set < mention; set++) {
                if (mayJoin(mention, set) && joins(mention, set, opens)) {
                    return true;
                }
            }
            return opens > 0 && joins(mention, mention, opens - 1);
        }

        private boolean mayJoin(int mention, int set) {
            if (set < 0 || set >= members.length || mention < 0 || mention >= alike.length) {
                return false;
            }
            return members[set] != 0 && (members[set] & ~alike[mention]) == 0;
        }

        private boolean joins(int mention, int set, int opens) {
            if (set < 0 || set >= members.length || mention < 0 || mention >= least.length) {
                return false;
            }
            members[set] |= 1 << mention;
            least[mention] = set;
            if (settle(mention + 1, opens)) {
                return true;
            }
            members[set] &= ~(1 << mention);
            return false;
        }
    }

    /** The ways of all loads that bring the most silver in the worst world. */
    private static final class Planner {
        long best;
        int bestPlan;
        private final House house;
        private final Ways ways;
        /** Silver by load, way and world. */
        private final long[] silver = new long[LOADS * WAYS * WORLDS];

        Planner(House house, Ways ways) {
            this.house = house;
            this.ways = ways;
        }

        void value(int season) {
            for (int load = 0; load < house.loads.rows; load++) {
                int owner = house.loads.get(load, OWNER);
                int weight = house.loads.get(load, WEIGHT);
                setSilver(load, WIDE, ways.leftByGates(owner, weight, season));
                setSilver(load, NARROW, ways.leftByLuck(weight));
                setSilver(load, STAY, 0);
            }
        }

        private void setSilver(int load, int way, long left) {
            for (int world = 0; world < WORLDS; world++) {
                long sold = left * house.prices.get(0, world) / 100 - house.loads.get(load, COST);
                int at = (load * WAYS + way) * WORLDS + world;
                if (at >= 0 && at < silver.length) {
                    silver[at] = way == STAY ? 0 : sold;
                }
            }
        }

        private long silverOf(int load, int way, int world) {
            int at = (load * WAYS + way) * WORLDS + world;
            return at >= 0 && at < silver.length ? silver[at] : 0;
        }

        /** Plans are numbered as rows are ordered, so the first of like ones stays. */
        void choose() {
            int plans = 1;
            for (int load = 0; load < house.loads.rows; load++) {
                plans *= WAYS;
            }
            bestPlan = 0;
            best = worstOf(0);
            for (int plan = 1; plan < plans; plan++) {
                long worst = worstOf(plan);
                if (worst > best) {
                    best = worst;
                    bestPlan = plan;
                }
            }
        }

        private long worstOf(int plan) {
            long first = 0;
            long second = 0;
            long third = 0;
            int rest = plan;
            for (int load = house.loads.rows - 1; load >= 0; load--) {
                int way = rest % WAYS;
                rest /= WAYS;
                first += silverOf(load, way, 0);
                second += silverOf(load, way, 1);
                third += silverOf(load, way, 2);
            }
            return Math.min(first, Math.min(second, third));
        }

        int wayOf(int plan, int load) {
            int rest = plan;
            for (int other = house.loads.rows - 1; other > load; other--) {
                rest /= WAYS;
            }
            return rest % WAYS;
        }
    }
}
