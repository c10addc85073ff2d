import java.lang.reflect.Method;
import java.lang.reflect.Modifier;
import java.util.Arrays;
import java.util.Comparator;
import java.util.List;
import java.util.function.BiConsumer;

/**
 * Houses drawn so that what must be searched for lies deep: long rings, balances of hidden sets, orders
 * of many names, letters of few days, men who are hard to tell apart, plans that are nearly alike, texts
 * of fifty characters with one of them changed; and any call with any numbers. Asked of TinHouse and of Plain.
 */
public final class SearchTest {
    private static final int NONE = TinHouse.NONE;
    /** What numbers are told by: the bounds of all of them, and what lies far beyond. */
    private static final long[] BOUNDS = {
        Integer.MIN_VALUE, Integer.MIN_VALUE + 1, -10, -2, -1, 0, 0, 0, 1, 1, 1, 2, 2, 3, 4, 5, 6, 9, 10, 12, 30, 31,
        40, 50, 60, 99, 100, 127, 128, 1000, 9999, 10000, 1000000, 1000001, 100000000, Integer.MAX_VALUE};
    private static final List<Method> CALLS = Arrays.stream(TinHouse.class.getDeclaredMethods())
            .filter(method -> Modifier.isPublic(method.getModifiers()))
            .sorted(Comparator.comparing(Method::getName)).toList();
    private static final Check CHECK = new Check("SearchTest");

    public static void main(String[] args) {
        runs(60, "ring", SearchTest::rings);
        runs(40, "fewest", SearchTest::fewest);
        runs(60, "orders", SearchTest::orders);
        runs(60, "letters", SearchTest::letters);
        runs(60, "men", SearchTest::men);
        runs(60, "plan", SearchTest::plans);
        runs(60, "texts", SearchTest::texts);
        runs(60, "owed", SearchTest::owed);
        runs(40, "purse", SearchTest::purses);
        runs(40, "ways", SearchTest::ways);
        runs(40, "span", SearchTest::spans);
        runs(60, "any", SearchTest::any);
        CHECK.end();
    }

    private static void runs(int runs, String what, BiConsumer<Pair, Drawn> run) {
        for (int i = 1; i <= runs; i++) {
            Pair pair = new Pair(CHECK, what + " run " + i);
            run.accept(pair, new Drawn(i * 104729L));
            pair.end();
        }
    }

    private static void merchants(Pair pair, Drawn drawn, int n) {
        for (int i = 0; i < n; i++) {
            pair.ask("merchant", drawn.below(3), drawn.below(2));
        }
    }

    /** 0 .. n less 1 in a drawn order. */
    private static int[] mixed(Drawn drawn, int n) {
        int[] row = new int[n];
        for (int i = 0; i < n; i++) {
            int at = drawn.below(i + 1);
            row[i] = row[at];
            row[at] = i;
        }
        return row;
    }

    // ---- nets

    /** Who owes is one of the next few on a hidden circle: the rings are long; a season later there are others. */
    private static void rings(Pair pair, Drawn drawn) {
        int n = drawn.from(3, 10);
        int next = drawn.oneOf(4) ? n - 1 : drawn.from(1, 3);
        merchants(pair, drawn, n);
        int[] circle = mixed(drawn, n);
        for (int i = drawn.from(n, Math.min(40, 4 * n)); i > 0; i--) {
            int season = drawn.below(4);
            int lender = drawn.below(n);
            int owes = (lender + drawn.from(1, next)) % n;
            int debt = (int) pair.ask("debt", circle[lender], circle[owes], drawn.from(1, 3), season, 99);
            if (debt >= 0 && drawn.oneOf(3)) {
                pair.ask("pay", debt, drawn.from(season, 4), drawn.from(1, 3));
            }
        }
        for (int season = 0; season < 5; season++) {
            long length = pair.ask("ring", season, NONE);
            for (int i = 0; i <= length; i++) {
                pair.ask("ring", season, i);
            }
        }
    }

    /** Sets that are even in themselves, then debts across them. */
    private static void fewest(Pair pair, Drawn drawn) {
        int n = drawn.from(6, 10);
        merchants(pair, drawn, n);
        int[] row = mixed(drawn, n);
        int most = drawn.from(3, 30);
        for (int i = 1; i < n; i++) {
            if (!drawn.oneOf(3)) {
                pair.ask("debt", row[i], row[i - 1], drawn.from(1, most), 0, 99);
            }
        }
        for (int season = 1; season < 5; season++) {
            pair.ask("fewest", season - 1);
            pair.ask("debt", drawn.below(n), drawn.below(n), drawn.from(1, most), season, 99);
        }
        for (int merchant = 0; merchant < n; merchant++) {
            pair.ask("balance", merchant, 4);
        }
        pair.ask("fewest", 4);
    }

    // ---- names, letters, men

    /** Mostly what agrees with one hidden order; what does not is known late. */
    private static void orders(Pair pair, Drawn drawn) {
        int n = drawn.oneOf(20) ? 9 : drawn.from(2, 7);
        pair.ask("names", n);
        int[] row = mixed(drawn, n);
        for (int i = drawn.from(n / 2, 2 * n); i > 0; i--) {
            int a = drawn.below(n - 1);
            int b = drawn.from(a + 1, n - 1);
            boolean isTurned = drawn.oneOf(12);
            pair.ask("ahead", row[isTurned ? b : a], row[isTurned ? a : b], isTurned ? 9 : drawn.below(9));
        }
        for (int k : n == 9 ? new int[] {7} : new int[] {2, 5, 8, 9}) {
            pair.ask("orders", k);
            for (int i = 0; i < n; i++) {
                pair.ask("order", k, i);
                pair.ask("place", i, k, 0);
                pair.ask("place", i, k, 1);
            }
        }
    }

    /** Letters of few days, told in any order, few of which tell a thing first. */
    private static void letters(Pair pair, Drawn drawn) {
        int n = drawn.from(2, 10);
        int days = drawn.from(1, 12);
        merchants(pair, drawn, n);
        for (int i = drawn.from(10, 60); i > 0; i--) {
            int sent = drawn.below(days);
            int come = sent + (drawn.oneOf(2) ? 0 : drawn.below(3));
            pair.ask("letter", drawn.below(n), drawn.below(n), sent, come, drawn.oneOf(4) ? drawn.below(8) : NONE);
        }
        for (int letter = 0; letter < pair.plain.count(8); letter++) {
            pair.ask("carries", letter);
        }
        for (int merchant = 0; merchant < n; merchant++) {
            for (int thing = 0; thing < 8; thing++) {
                pair.ask("knows", merchant, thing, drawn.below(days + 2));
            }
        }
    }

    /** Few houses and seals, told by some alone, in seasons about 40 apart. */
    private static void men(Pair pair, Drawn drawn) {
        int n = drawn.from(4, 10);
        int houses = drawn.from(1, 3);
        int seals = drawn.from(1, 4);
        int seasons = drawn.from(41, 99);
        for (int i = 0; i < n; i++) {
            int house = drawn.oneOf(2) ? NONE : drawn.below(houses);
            int seal = drawn.oneOf(2) ? NONE : drawn.below(seals);
            pair.ask("mention", house, seal, drawn.below(seasons));
            pair.ask("men", NONE);
        }
        for (int what = 0; what < n; what++) {
            pair.ask("men", what);
        }
    }

    // ---- plans

    /** Small loads and prices, so that rows are alike in the worst world. */
    private static void plans(Pair pair, Drawn drawn) {
        merchants(pair, drawn, 3);
        gatesAndTolls(pair, drawn);
        pair.ask("narrow", drawn.from(2, 20));
        int weight = drawn.oneOf(2) ? 30 : 2000;
        for (int loads = drawn.from(2, 6); loads > 0; loads--) {
            pair.ask("load", drawn.below(3), drawn.from(1, weight), drawn.below(weight / 3));
        }
        for (int times = 0; times < 3; times++) {
            for (int world = 0; world < 3; world++) {
                pair.ask("price", world, drawn.from(20, 120));
            }
            for (int season = 0; season < 3; season++) {
                pair.ask("plan", season, NONE);
                for (int load = 0; load < pair.plain.count(10); load++) {
                    pair.ask("plan", season, load);
                }
            }
        }
    }

    private static void gatesAndTolls(Pair pair, Drawn drawn) {
        for (int gates = drawn.from(1, 6); gates > 0; gates--) {
            pair.ask("gate", drawn.below(2));
        }
        String[] tolls = {"g+k*2+t*3+s", "w/50", "k?2:6+g", "(g+1)*(t+1)", "w>100?9:4", "12-k*5-s"};
        for (int acts = drawn.below(3); acts > 0; acts--) {
            pair.text(0, tolls[drawn.below(tolls.length)]);
            pair.ask("act", 0, 0, drawn.below(3));
        }
    }

    // ---- texts

    private static String unit(Drawn drawn, int depth) {
        int kind = drawn.below(depth > 0 ? 6 : 3);
        if (kind < 2) {
            return "gktsw".substring(drawn.below(5)).substring(0, 1);
        }
        if (kind == 2) {
            return Integer.toString(drawn.below(drawn.oneOf(3) ? 1000000 : 12));
        }
        return kind == 5 ? (drawn.oneOf(2) ? "!" : "-") + unit(drawn, depth - 1) : "(" + value(drawn, depth - 1) + ")";
    }

    private static String value(Drawn drawn, int depth) {
        StringBuilder text = new StringBuilder(unit(drawn, depth));
        for (int i = drawn.below(4); i > 0; i--) {
            text.append(drawn.oneOf(7) ? " " : "").append("|&<>=+-*/".charAt(drawn.below(9))).append(unit(drawn, depth));
        }
        if (depth > 0 && drawn.oneOf(3)) {
            text.append('?').append(value(drawn, depth - 1)).append(':').append(value(drawn, depth - 1));
        }
        return text.toString();
    }

    /** The longest of some that fit; chains of < > = among them are faults. */
    private static String longText(Drawn drawn) {
        String longest = "w";
        for (int i = 0; i < 30; i++) {
            String text = value(drawn, 1 + drawn.below(7));
            boolean isBetter = text.length() <= 50 && text.length() > longest.length();
            longest = isBetter && (Plain.faultOf(text) == NONE || drawn.oneOf(6)) ? text : longest;
        }
        return longest;
    }

    /** One character dropped, put in or put in place of another one. */
    private static String changed(Drawn drawn, String text) {
        String signs = "gktsw0199()!-?:|&<>=+-*/ x~";
        StringBuilder row = new StringBuilder(text);
        int at = drawn.below(row.length());
        char sign = signs.charAt(drawn.below(signs.length()));
        switch (drawn.below(3)) {
            case 0 -> row.deleteCharAt(at);
            case 1 -> row.insert(at, sign);
            default -> row.setCharAt(at, sign);
        }
        return row.toString();
    }

    private static void texts(Pair pair, Drawn drawn) {
        while (pair.isLeft()) {
            int text = drawn.below(4);
            String signs = longText(drawn);
            pair.text(text, drawn.oneOf(3) ? signs : changed(drawn, signs));
            pair.ask("fault", text);
            for (int i = 0; i < 4; i++) {
                long w = drawn.oneOf(3) ? drawn.wide() : drawn.from(-9, 99);
                pair.ask("tells", text, drawn.below(6), drawn.below(2), drawn.below(2), drawn.below(100), w);
            }
        }
    }

    // ---- debts, purses

    /** Acts of all seasons; debts in envelopes or none, paid now and then; owed in all seasons. */
    private static void owed(Pair pair, Drawn drawn) {
        merchants(pair, drawn, 4);
        String[] rates = {"k?s*9:t*40+5", "w/7", "1000-s*20", "w>900?200:10", "s/3*3=s?1000:0", "30+k*9-t*3"};
        for (int acts = drawn.below(5); acts > 0; acts--) {
            pair.text(0, rates[drawn.below(rates.length)]);
            pair.ask("act", 0, 1, drawn.below(50));
        }
        for (int debts = drawn.from(1, 5); debts > 0; debts--) {
            int lent = drawn.below(40);
            int sum = drawn.from(1, drawn.oneOf(2) ? 1000000 : 2000);
            int debt = (int) pair.ask("debt", drawn.below(4), drawn.below(4), sum, lent, drawn.from(lent, 60));
            for (int payments = drawn.below(9); debt >= 0 && payments > 0; payments--) {
                pair.ask("pay", debt, drawn.from(lent, 99), drawn.from(1, sum));
            }
            if (debt >= 0 && drawn.oneOf(2)) {
                pair.ask("seal", debt, drawn.from(1, 2000));
                pair.ask("breaks", debt, drawn.below(100));
            }
        }
        for (int season = 0; season < 100; season++) {
            pair.ask("owed", drawn.below(Math.max(1, pair.plain.count(2))), season);
            pair.ask("balance", drawn.below(4), season);
        }
    }

    private static void purses(Pair pair, Drawn drawn) {
        int n = drawn.from(1, 10);
        merchants(pair, drawn, n);
        pair.text(0, new String[] {"k*50+t*70+20", "w/9", "200-s", "k?s:t*90"}[drawn.below(4)]);
        pair.ask("act", 0, 2, drawn.below(40));
        for (int purse = 0; purse < 3; purse++) {
            pair.ask("purse", drawn.below(n), drawn.from(1, 99), drawn.from(1, drawn.oneOf(2) ? 9 : 10000));
        }
        for (int times = 0; times < 60; times++) {
            int purse = drawn.below(3);
            pair.ask("share", purse, drawn.below(n), drawn.from(1, 9));
            pair.ask("parted", purse, drawn.below(drawn.oneOf(2) ? 200 : 100000001), drawn.below(n));
            pair.ask("parted", purse, drawn.below(200), pair.plain.purses.get(purse)[0]);
            if (drawn.oneOf(3)) {
                pair.ask("leave", purse, drawn.below(n), drawn.below(60));
            }
        }
    }

    // ---- ways, stones

    private static void ways(Pair pair, Drawn drawn) {
        merchants(pair, drawn, 4);
        for (int times = 0; times < 5; times++) {
            gatesAndTolls(pair, drawn);
            pair.ask("narrow", drawn.from(2, 30));
            for (int i = 0; i < 12; i++) {
                int weight = drawn.from(1, drawn.oneOf(2) ? 1000000 : 60);
                pair.ask("wide", drawn.below(4), weight, drawn.below(4));
                pair.ask("better", drawn.below(4), weight, drawn.below(4));
            }
        }
    }

    /** Stones that are close to one another, so that their spans meet in little or hardly miss. */
    private static void spans(Pair pair, Drawn drawn) {
        int a = drawn.from(50, 9900);
        int b = drawn.from(50, 9900);
        for (int stones = 0; stones < 12; stones++) {
            int many = drawn.from(1, Math.max(1, 10000 / Math.max(a, b)));
            pair.ask("stone", a * many, b * many + drawn.below(3) - 1, drawn.below(4));
            for (int which = 0; which < 2; which++) {
                pair.ask("span", drawn.from(1, 1000000), which);
                pair.ask("part", 0);
                pair.ask("part", 1);
            }
        }
    }

    // ---- any call with any numbers

    private static void any(Pair pair, Drawn drawn) {
        if (drawn.oneOf(2)) {
            merchants(pair, drawn, 3);
            pair.text(1, "w/2+g");
            pair.ask("purse", 0, 9, 9);
            pair.ask("debt", 0, 1, 9, 0, 0);
        }
        while (pair.isLeft()) {
            Method call = CALLS.get(drawn.below(CALLS.size()));
            long[] numbers = new long[call.getParameterCount()];
            for (int i = 0; i < numbers.length; i++) {
                numbers[i] = BOUNDS[drawn.below(BOUNDS.length)];
            }
            pair.ask(call.getName(), numbers);
        }
    }
}
