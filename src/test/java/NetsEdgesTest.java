import java.util.function.Consumer;

/** Promises 25 to 27, every boundary that the document names: balances, the fewest payments, rings. */
public final class NetsEdgesTest {
    private static final int NONE = TinHouse.NONE, BAD = TinHouse.BAD;
    private static final long BAD_SILVER = -9000000000000000000L;
    private static final Cases CASES = new Cases("NetsEdgesTest");

    public static void main(String[] args) {
        balance();
        fewest();
        fewestAgain();
        fewestSets();
        ring();
        ringOfPairs();
        ringOfPairsPaid();
        ringOfSeasons();
        fewestInRing();
        firstRow();
        CASES.end();
    }

    /** Debts, each as lender, who owes, shekels: lent in SEASON 0, due in 99. */
    private static Consumer<Case> debts(int merchants, int[]... rows) {
        return c -> {
            c.merchants(merchants);
            for (int[] row : rows) {
                c.tell("debt", row[0], row[1], row[2], 0, 99);
            }
        };
    }

    private static int[] row(int... numbers) {
        return numbers;
    }

    // ---- promise 25

    private static void balance() {
        CASES.bounds(BAD_SILVER, debts(3, row(0, 2, 70)), "balance", 0, 50).number(0, 0, 70, 2, -70);
        CASES.bounds(BAD_SILVER, debts(3, row(0, 2, 70)), "balance", 0, 50).number(1, 0, 70, 99, 70);
        CASES.test("balance: no DEBTS", c -> c.merchants(1).gives(0, "balance", 0, 0).gives(0, "balance", 0, 99));
        CASES.test("balance: of who has no part", c -> debts(3, row(0, 2, 70)).andThen(d -> {
            d.gives(0, "balance", 1, 0);
        }).accept(c));
        CASES.test("balance: to get less what he owes", c -> {
            debts(3, row(0, 1, 70), row(2, 0, 100), row(0, 2, 5)).accept(c);
            c.gives(-25, "balance", 0, 0).gives(-70, "balance", 1, 0).gives(95, "balance", 2, 0);
        });
        CASES.test("balance: ahead of the SEASON in which it was lent", c -> {
            c.merchants(2).tell("debt", 0, 1, 70, 10, 10).gives(0, "balance", 0, 9).gives(70, "balance", 0, 10);
            c.gives(0, "balance", 1, 9).gives(-70, "balance", 1, 10);
        });
        CASES.test("balance: as OWED, grown and paid", c -> {
            c.merchants(2).tell("debt", 0, 1, 1000, 0, 0).gives(1030, "balance", 0, 1);
            c.tell("pay", 0, 1, 500).gives(515, "balance", 0, 1).gives(-515, "balance", 1, 1);
        });
        CASES.test("balance: 40 DEBTS at most", c -> {
            c.merchants(2).times(40, "debt", 0, 1, 1000000, 0, 99).gives(40000000, "balance", 0, 0);
        });
    }

    // ---- promise 26

    private static void fewest() {
        CASES.bounds(BAD, debts(2, row(0, 1, 70)), "fewest", 50).number(0, 0, 1, 99, 1);
        CASES.test("fewest: of one MERCHANT", c -> c.merchants(1).gives(0, "fewest", 0));
        CASES.test("fewest: of ten without DEBTS", c -> c.merchants(10).gives(0, "fewest", 99));
        CASES.test("fewest: one shekel", c -> debts(2, row(0, 1, 1)).andThen(d -> d.gives(1, "fewest", 0)).accept(c));
        CASES.test("fewest: alike both ways", c -> {
            debts(2, row(0, 1, 5), row(1, 0, 5)).accept(c);
            c.gives(0, "fewest", 0);
        });
        CASES.test("fewest: one shekel less both ways", c -> {
            debts(2, row(0, 1, 5), row(1, 0, 4)).accept(c);
            c.gives(1, "fewest", 0);
        });
        CASES.test("fewest: ahead of the SEASON in which it was lent", c -> {
            c.merchants(2).tell("debt", 0, 1, 70, 10, 10).gives(0, "fewest", 9).gives(1, "fewest", 10);
        });
        CASES.test("fewest: paid off", c -> {
            c.merchants(2).tell("debt", 0, 1, 70, 0, 99).tell("pay", 0, 5, 69).tell("pay", 0, 6, 1);
            c.gives(1, "fewest", 4).gives(1, "fewest", 5).gives(0, "fewest", 6);
        });
        CASES.test("fewest: as it grows", c -> {
            c.merchants(3).tell("debt", 0, 1, 100, 0, 0).tell("debt", 1, 2, 100, 0, 99);
            c.gives(1, "fewest", 0).gives(2, "fewest", 1);
        });
    }

    private static void fewestAgain() {
        CASES.test("fewest: of one SEASON, of another one, and again", c -> {
            c.merchants(6).tell("debt", 0, 1, 5, 0, 99).tell("debt", 2, 3, 7, 0, 99).tell("debt", 4, 5, 6, 0, 99);
            c.tell("debt", 1, 2, 3, 10, 99).tell("debt", 3, 4, 1, 20, 99);
            for (int times = 0; times < 3; times++) {
                c.gives(3, "fewest", 0).gives(4, "fewest", 10).gives(5, "fewest", 20);
            }
        });
        CASES.test("fewest: asked again, as told on", c -> {
            c.merchants(4).tell("debt", 0, 1, 5, 0, 99).gives(1, "fewest", 0).tell("debt", 2, 3, 6, 0, 99);
            c.gives(2, "fewest", 0).tell("debt", 1, 2, 1, 0, 99).gives(3, "fewest", 0).tell("pay", 2, 0, 1);
            c.gives(2, "fewest", 0).tell("pay", 0, 0, 5).gives(1, "fewest", 0).gives(1, "fewest", 0);
        });
    }

    /** By merchant 0, who has lent to or owes all: balances of the others as told, his against them. */
    private static void sets(String what, int due, int... balances) {
        CASES.test("fewest: " + what, c -> {
            c.merchants(balances.length);
            for (int m = 1; m < balances.length; m++) {
                if (balances[m] > 0) {
                    c.tell("debt", m, 0, balances[m], 0, 99);
                } else if (balances[m] < 0) {
                    c.tell("debt", 0, m, -balances[m], 0, 99);
                }
            }
            c.gives(balances[0], "balance", 0, 0).gives(due, "fewest", 0);
        });
    }

    private static void fewestSets() {
        sets("a pair", 1, 5, -5);
        sets("three", 2, 5, -2, -3);
        sets("three of one shekel", 3, 3, -1, -1, -1);
        sets("three to get one shekel each", 3, -3, 1, 1, 1);
        sets("two pairs", 2, 5, -5, 7, -7);
        sets("four in one set", 3, 5, -4, 7, -8);
        sets("a pair or two, with one of 0", 2, 5, -5, 0, 7, -7);
        sets("a pair and three", 3, 5, -5, 7, -3, -4);
        sets("two sets of three, not of two", 4, 10, -4, -6, 11, -5, -6);
        sets("five pairs", 5, 1, -1, 2, -2, 3, -3, 4, -4, 5, -5);
        sets("ten in one set", 9, 511, -1, -2, -4, -8, -16, -32, -64, -128, -256);
        sets("nine and one of 0", 8, 255, -1, -2, -4, -8, -16, -32, -64, -128, 0);
        sets("two of five", 8, 10, -1, -2, -3, -4, 20, -11, -2, -2, -5);
        sets("three pairs and four of like sums", 6, 8, -8, 8, -8, 8, -8, 4, 4, -6, -2);
        sets("one who is settled by a pair or by three", 3, 6, -6, 2, 4, -6);
        sets("all of 0", 0, 0, 0, 0, 0);
    }

    // ---- promise 27

    /** The ring of a SEASON, each of its places, and what is asked behind it. */
    private static void holds(Case c, int season, int... ring) {
        c.gives(ring.length, "ring", season, NONE);
        for (int i = 0; i < ring.length; i++) {
            c.gives(ring[i], "ring", season, i);
        }
        c.gives(NONE, "ring", season, ring.length).gives(NONE, "ring", season, Integer.MAX_VALUE);
    }

    /** Who owes whom one shekel, as pairs. */
    private static void ring(String what, int merchants, int[] ring, int... pairs) {
        CASES.test("ring: " + what, c -> {
            c.merchants(merchants);
            for (int i = 0; i + 1 < pairs.length; i += 2) {
                c.tell("debt", pairs[i + 1], pairs[i], 1, 0, 99);
            }
            holds(c, 0, ring);
        });
    }

    private static void ring() {
        Consumer<Case> both = debts(2, row(0, 1, 5), row(1, 0, 7));
        CASES.bounds(BAD, both, "ring", 50, NONE).number(0, 0, 2, 99, 2).least(1, NONE, 2);
        CASES.bounds(BAD, both, "ring", 50, 0).number(0, 0, 0, 99, 0);
        CASES.bounds(BAD, both, "ring", 50, 0)
                .taken(1, 0, 0).taken(1, 1, 1).taken(1, 2, NONE).taken(1, Integer.MAX_VALUE, NONE);
        ring("none of no MERCHANTS", 0, row());
        ring("none of one MERCHANT", 1, row());
        ring("none of one DEBT", 2, row(), 0, 1);
        ring("none of a row", 4, row(), 0, 1, 1, 2, 2, 3);
        ring("of two", 2, row(0, 1), 0, 1, 1, 0);
        ring("of three", 3, row(0, 1, 2), 0, 1, 1, 2, 2, 0);
        ring("of three, the other way", 3, row(0, 2, 1), 0, 2, 2, 1, 1, 0);
        ring("of the last two of ten", 10, row(8, 9), 9, 8, 8, 9);
        ring("of ten", 10, row(0, 3, 6, 9, 2, 5, 8, 1, 4, 7),
                0, 3, 3, 6, 6, 9, 9, 2, 2, 5, 5, 8, 8, 1, 1, 4, 4, 7, 7, 0);
        ring("of nine of ten", 10, row(1, 2, 3, 4, 5, 6, 7, 8, 9),
                1, 2, 2, 3, 3, 4, 4, 5, 5, 6, 6, 7, 7, 8, 8, 9, 9, 1, 0, 1, 0, 5);
    }

    private static void ringOfPairs() {
        CASES.test("ring: what two owe one another is not set off", c -> {
            debts(2, row(0, 1, 5), row(1, 0, 5)).accept(c);
            c.gives(0, "fewest", 0);
            holds(c, 0, 0, 1);
        });
        CASES.test("ring: all DEBTS of the pair together", c -> {
            debts(2, row(0, 1, 5), row(0, 1, 7), row(1, 0, 5)).accept(c);
            c.tell("pay", 0, 3, 5).tell("pay", 1, 4, 7);
            holds(c, 3, 0, 1);
            holds(c, 4);
        });
    }

    private static void ringOfPairsPaid() {
        CASES.test("ring: one DEBT of the pair is left, the first", c -> {
            debts(2, row(0, 1, 5), row(0, 1, 7), row(1, 0, 5)).accept(c);
            c.tell("pay", 1, 0, 7);
            holds(c, 0, 0, 1);
        });
        CASES.test("ring: one DEBT of the pair is left, the last", c -> {
            debts(2, row(1, 0, 5), row(0, 1, 5), row(0, 1, 7)).accept(c);
            c.tell("pay", 1, 0, 5);
            holds(c, 0, 0, 1);
        });
        CASES.test("ring: of one SEASON, of another one, and again", c -> {
            c.merchants(5).tell("debt", 0, 1, 5, 0, 99).tell("debt", 1, 2, 5, 0, 99).tell("debt", 2, 0, 5, 0, 99);
            c.tell("debt", 3, 4, 5, 10, 99).tell("debt", 4, 3, 5, 10, 99);
            for (int times = 0; times < 2; times++) {
                holds(c, 9, 0, 2, 1);
                holds(c, 10, 3, 4);
            }
        });
    }

    private static void ringOfSeasons() {
        CASES.test("ring: ahead of the SEASON in which the last one was lent", c -> {
            c.merchants(2).tell("debt", 0, 1, 5, 0, 99).tell("debt", 1, 0, 5, 10, 99);
            holds(c, 9);
            holds(c, 10, 0, 1);
        });
        CASES.test("ring: one shekel is left, then none", c -> {
            debts(2, row(0, 1, 5), row(1, 0, 5)).accept(c);
            c.tell("pay", 0, 6, 4).tell("pay", 0, 7, 1);
            holds(c, 6, 0, 1);
            holds(c, 7);
        });
        CASES.test("ring: in SEASON 99 alone", c -> {
            c.merchants(2).tell("debt", 0, 1, 5, 0, 99).tell("debt", 1, 0, 5, 99, 99);
            holds(c, 98);
            holds(c, 99, 0, 1);
        });
        CASES.test("ring: none is no refusal of what", c -> {
            c.merchants(2).gives(0, "ring", 0, NONE).gives(NONE, "ring", 0, 0).refuses(BAD, "ring", 0, -2);
            c.refuses(BAD, "ring", 100, 0).refuses(BAD, "ring", -1, NONE);
        });
    }

    private static void fewestInRing() {
        ring("the fewest, not the first", 5, row(3, 4), 0, 1, 1, 2, 2, 0, 3, 4, 4, 3);
        ring("the fewest from one", 5, row(0, 2, 3, 4), 0, 1, 1, 2, 2, 3, 3, 4, 4, 0, 0, 2);
        ring("three are fewer than four", 7, row(4, 5, 6), 0, 1, 1, 2, 2, 3, 3, 0, 4, 5, 5, 6, 6, 4);
        ring("a short way back", 5, row(0, 1), 0, 1, 1, 2, 2, 0, 1, 0);
        ring("a short way, then a long one", 4, row(0, 1), 0, 1, 1, 0, 0, 2, 2, 3, 3, 0);
        ring("past one who owes nobody", 3, row(0, 2), 0, 1, 0, 2, 2, 0);
        ring("past one who owes nobody, further on", 5, row(0, 1, 4), 0, 1, 1, 2, 1, 3, 1, 4, 4, 0);
        ring("past one to whom nothing is owed", 5, row(0, 2, 4), 3, 0, 0, 2, 2, 4, 4, 0);
        ring("past one to whom nothing is owed, ahead of all", 4, row(0, 2, 3), 1, 3, 0, 2, 2, 3, 3, 0);
        ring("a short way within", 5, row(1, 2), 0, 1, 1, 2, 2, 3, 3, 0, 2, 1);
    }

    private static void firstRow() {
        ring("of like ones the least first", 4, row(0, 1), 2, 3, 3, 2, 0, 1, 1, 0);
        ring("of like ones with one first the least second", 4, row(0, 1), 0, 3, 3, 0, 0, 2, 2, 0, 0, 1, 1, 0);
        ring("of like ones the least second of three", 5, row(1, 2, 4), 1, 3, 3, 4, 4, 1, 1, 2, 2, 4);
        ring("of like ones the least third", 6, row(0, 2, 3, 1), 0, 2, 2, 5, 5, 1, 1, 0, 2, 3, 3, 1);
        ring("it begins with its least", 4, row(1, 3, 2), 3, 2, 2, 1, 1, 3);
        ring("not by way of a lesser one", 4, row(1, 2, 3), 1, 0, 0, 2, 1, 2, 2, 3, 3, 1);
    }
}
