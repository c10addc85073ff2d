/** Promises 25 to 27: balances, the fewest payments, rings. */
public final class NetsTest {
    private static final long BAD_SILVER = -9000000000000000000L;
    private static final Check CHECK = new Check("NetsTest");

    public static void main(String[] args) {
        balance();
        fewest();
        fewestOfOne();
        fewestOfTen();
        ring();
        ringsOfLikeLength();
        longRings();
        ringsFromOne();
        CHECK.end();
    }

    private static void balance() {
        TinHouse x = Check.withMerchants(3);
        CHECK.due("no debts", x.balance(2, 0), 0);
        x.debt(0, 1, 100, 0, 99);
        x.debt(0, 2, 50, 5, 5);
        x.debt(1, 0, 30, 3, 99);
        CHECK.due("season 0", x.balance(0, 0), 100);
        CHECK.due("season 3", x.balance(0, 3), 70);
        CHECK.due("season 5", x.balance(0, 5), 120);
        CHECK.due("grown", x.balance(0, 6), 121);
        CHECK.due("who owes", x.balance(1, 6), -70);
        CHECK.due("who owes, grown", x.balance(2, 6), -51);
        CHECK.due("merchant", x.balance(3, 0), BAD_SILVER);
        CHECK.due("merchant below", x.balance(-1, 0), BAD_SILVER);
        CHECK.due("season", x.balance(0, 100), BAD_SILVER);
        CHECK.due("season below", x.balance(0, -1), BAD_SILVER);
    }

    private static void fewest() {
        TinHouse x = Check.withMerchants(6);
        CHECK.due("no debts", x.fewest(0), 0);
        x.debt(0, 1, 5, 0, 99);
        CHECK.due("one", x.fewest(0), 1);
        x.debt(1, 2, 5, 0, 99);
        CHECK.due("through one with 0", x.fewest(0), 1);
        x.debt(2, 0, 5, 0, 99);
        CHECK.due("all 0", x.fewest(0), 0);
        x.debt(3, 0, 10, 1, 99);
        x.debt(3, 1, 20, 1, 99);
        x.debt(4, 2, 10, 1, 99);
        CHECK.due("ahead of them", x.fewest(0), 0);
        CHECK.due("a pair and three", x.fewest(1), 3);
        x.debt(5, 4, 1, 2, 99);
        CHECK.due("two times three", x.fewest(2), 4);
        x.debt(5, 3, 1, 3, 99);
        CHECK.due("six", x.fewest(3), 5);
        CHECK.due("season", x.fewest(100), TinHouse.BAD);
        CHECK.due("season below", x.fewest(-1), TinHouse.BAD);
    }

    private static void fewestOfOne() {
        TinHouse x = Check.withMerchants(4);
        x.debt(0, 1, 1, 0, 99);
        CHECK.due("one shekel", x.fewest(0), 1);
        x.debt(2, 1, 1, 0, 99);
        x.debt(3, 1, 1, 0, 99);
        CHECK.due("three shekels", x.fewest(0), 3);
    }

    private static void fewestOfTen() {
        TinHouse x = Check.withMerchants(10);
        for (int i = 0; i < 5; i++) {
            x.debt(i, (i + 1) % 5 + 5, 1 + i, 0, 99);
        }
        CHECK.due("five pairs", x.fewest(0), 5);
        x.debt(0, 1, 100, 1, 99);
        CHECK.due("two of them together", x.fewest(1), 6);
        TinHouse y = Check.withMerchants(10);
        for (int i = 1; i < 10; i++) {
            y.debt(0, i, 1 << i, 0, 99);
        }
        CHECK.due("one with all", y.fewest(0), 9);
    }

    private static void row(TinHouse x, int season, int... row) {
        CHECK.due("ring length", x.ring(season, TinHouse.NONE), row.length);
        for (int i = 0; i < row.length; i++) {
            CHECK.due("ring at " + i, x.ring(season, i), row[i]);
        }
        CHECK.due("behind the ring", x.ring(season, row.length), TinHouse.NONE);
        CHECK.due("far behind the ring", x.ring(season, Integer.MAX_VALUE), TinHouse.NONE);
    }

    /** One owes another one. */
    private static void owes(TinHouse x, int one, int other, int from) {
        x.debt(other, one, 10, from, 99);
    }

    private static void ring() {
        TinHouse x = Check.withMerchants(5);
        row(x, 0);
        owes(x, 0, 1, 0);
        owes(x, 1, 2, 0);
        row(x, 0);
        owes(x, 2, 0, 0);
        row(x, 0, 0, 1, 2);
        owes(x, 4, 3, 1);
        owes(x, 3, 4, 1);
        row(x, 0, 0, 1, 2);
        row(x, 1, 3, 4);
        x.pay(4, 2, 10);
        row(x, 2, 0, 1, 2);
        x.pay(0, 2, 9);
        row(x, 2, 0, 1, 2);
        x.pay(0, 3, 9);
        row(x, 3);
        owes(x, 0, 1, 4);
        row(x, 4, 0, 1, 2);
        CHECK.due("season", x.ring(100, 0), TinHouse.BAD);
        CHECK.due("season below", x.ring(-1, 0), TinHouse.BAD);
        CHECK.due("what below", x.ring(0, -2), TinHouse.BAD);
        CHECK.due("what far below", x.ring(0, Integer.MIN_VALUE), TinHouse.BAD);
    }

    private static void ringsOfLikeLength() {
        TinHouse x = Check.withMerchants(6);
        owes(x, 1, 5, 0);
        owes(x, 5, 2, 0);
        owes(x, 2, 1, 0);
        row(x, 0, 1, 5, 2);
        owes(x, 1, 3, 1);
        owes(x, 3, 4, 1);
        owes(x, 4, 1, 1);
        row(x, 1, 1, 3, 4);
        owes(x, 5, 0, 2);
        owes(x, 0, 1, 2);
        row(x, 2, 0, 1, 5);
        owes(x, 3, 1, 3);
        row(x, 3, 1, 3);
    }

    private static void ringsFromOne() {
        TinHouse x = Check.withMerchants(6);
        int[] longWay = {0, 1, 2, 3, 4, 0};
        for (int i = 0; i < 5; i++) {
            owes(x, longWay[i], longWay[i + 1], 0);
        }
        row(x, 0, 0, 1, 2, 3, 4);
        owes(x, 0, 2, 1);
        row(x, 1, 0, 2, 3, 4);
        owes(x, 0, 5, 2);
        owes(x, 5, 3, 2);
        row(x, 2, 0, 2, 3, 4);
        owes(x, 5, 4, 3);
        row(x, 3, 0, 5, 4);
        owes(x, 1, 4, 4);
        row(x, 4, 0, 1, 4);
    }

    private static void longRings() {
        TinHouse x = Check.withMerchants(10);
        for (int i = 0; i < 10; i++) {
            owes(x, i, (i + 3) % 10, 0);
        }
        row(x, 0, 0, 3, 6, 9, 2, 5, 8, 1, 4, 7);
        owes(x, 9, 4, 1);
        row(x, 1, 0, 3, 6, 9, 4, 7);
        owes(x, 4, 0, 2);
        row(x, 2, 0, 3, 6, 9, 4);
        owes(x, 8, 2, 3);
        row(x, 3, 2, 5, 8);
    }
}
