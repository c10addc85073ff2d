import java.util.function.Consumer;

/** Promises 9 to 17, every boundary that the document names: debts, payments, envelopes, purses. */
public final class DebtsEdgesTest {
    private static final int NONE = TinHouse.NONE, BAD = TinHouse.BAD, NO = TinHouse.NO, FULL = TinHouse.FULL;
    private static final long MOST_OWED = 1000000000000L;
    private static final int TOLL = 0, RATE = 1, SHARE = 2;
    private static final Consumer<Case> THREE = c -> c.merchants(3);
    private static final Cases CASES = new Cases("DebtsEdgesTest");

    public static void main(String[] args) {
        debts();
        debtsRefused();
        payments();
        paymentsRefused();
        owed();
        paidOff();
        growth();
        rateOfTheSeason();
        rateByNumbers();
        mostOwed();
        seals();
        breaks();
        envelopes();
        purses();
        shares();
        leaving();
        leavingByShare();
        parted();
        partedRest();
        CASES.end();
    }

    // ---- promise 9

    private static void debts() {
        CASES.bounds(BAD, THREE, "debt", 0, 1, 100, 5, 9)
                .number(0, 0, 0, 2, 0).number(2, 1, 0, 1000000, 0).number(3, 0, 0, 9, 0).number(4, 5, 0, 99, 0);
        CASES.bounds(BAD, THREE, "debt", 1, 0, 100, 5, 9).number(1, 0, 0, 2, 0);
        CASES.bounds(BAD, THREE, "debt", 1, 0, 100, 0, 99).number(3, 0, 0, 99, 0).number(4, 0, 0, 99, 0);
        CASES.bounds(BAD, THREE, "debt", 1, 0, 100, 99, 99).number(3, 0, 0, 99, 0).number(4, 99, 0, 99, 0);
        CASES.test("debt: alike", c -> {
            c.merchants(3).refuses(BAD, "debt", 0, 0, 100, 5, 9).refuses(BAD, "debt", 2, 2, 100, 5, 9);
        });
        CASES.test("debt: due in the SEASON in which it was lent", c -> c.merchants(2).gives(0, "debt", 0, 1, 1, 7, 7));
        CASES.test("debt: due in the SEASON ahead of it", c -> c.merchants(2).refuses(BAD, "debt", 0, 1, 1, 7, 6));
        CASES.test("debt: one like another one", c -> {
            c.merchants(2).gives(0, "debt", 0, 1, 1, 7, 7).gives(1, "debt", 0, 1, 1, 7, 7);
        });
        CASES.test("debt: 0 .. 39 as they come, the 41st is too many", c -> {
            c.merchants(3);
            for (int i = 0; i < 40; i++) {
                c.gives(i, "debt", i % 3, (i + 1) % 3, 1 + i, i, i + 1);
            }
            c.refuses(FULL, "debt", 0, 1, 1, 0, 0).gives(40, "count", 2).gives(40, "owed", 39, 39);
        });
    }

    private static void debtsRefused() {
        CASES.test("debt: BAD ahead of FULL", c -> {
            c.merchants(2).times(40, "debt", 0, 1, 1, 0, 0);
            c.refuses(BAD, "debt", 1, 1, 1, 0, 0).refuses(BAD, "debt", 2, 1, 1, 0, 0);
            c.refuses(BAD, "debt", 0, 2, 1, 0, 0).refuses(BAD, "debt", 0, 1, 0, 0, 0);
            c.refuses(BAD, "debt", 0, 1, 1000001, 0, 0).refuses(BAD, "debt", 0, 1, 1, 5, 4);
            c.refuses(BAD, "debt", 0, 1, 1, 0, 100).refuses(BAD, "debt", 0, 1, 1, -1, 0);
            c.refuses(FULL, "debt", 0, 1, 1, 0, 0);
        });
        CASES.test("debt: of one MERCHANT alone", c -> c.merchants(1).refuses(BAD, "debt", 0, 1, 1, 0, 0));
    }

    // ---- promise 10

    private static void payments() {
        Consumer<Case> two = c -> c.merchants(2).tell("debt", 0, 1, 100, 10, 20).tell("debt", 1, 0, 100, 10, 10);
        CASES.bounds(BAD, two, "pay", 0, 15, 5)
                .number(0, 0, 1, 1, 1).number(1, 10, 1, 99, 1).number(2, 1, 1, 1000000, 1);
        CASES.test("pay: a DEBT lent in SEASON 0", c -> {
            c.merchants(2).tell("debt", 0, 1, 9, 0, 0).gives(1, "pay", 0, 0, 5).refuses(BAD, "pay", 0, -1, 5);
        });
        CASES.test("pay: a DEBT lent in SEASON 99", c -> {
            c.merchants(2).tell("debt", 0, 1, 9, 99, 99).refuses(BAD, "pay", 0, 98, 5).gives(1, "pay", 0, 99, 5);
            c.refuses(BAD, "pay", 0, 100, 5).gives(4, "owed", 0, 99);
        });
        CASES.test("pay: 60, the 61st is too many", c -> {
            c.merchants(2).tell("debt", 0, 1, 100, 0, 99).tell("debt", 0, 1, 100, 0, 99);
            for (int i = 1; i <= 60; i++) {
                c.gives(i, "pay", i % 2, i, 1);
            }
            c.refuses(FULL, "pay", 0, 99, 1).refuses(FULL, "pay", 1, 0, 1).gives(60, "count", 3);
            c.gives(71, "owed", 1, 58).gives(70, "owed", 1, 59).gives(71, "owed", 0, 59).gives(70, "owed", 0, 60);
        });
        CASES.test("pay: more than there is owed is told, too", c -> {
            c.merchants(2).tell("debt", 0, 1, 5, 0, 0).gives(1, "pay", 0, 0, 6).gives(2, "pay", 0, 0, 6);
            c.gives(2, "count", 3).gives(0, "owed", 0, 0);
        });
    }

    private static void paymentsRefused() {
        CASES.test("pay: BAD ahead of FULL", c -> {
            c.merchants(2).tell("debt", 0, 1, 100, 10, 20).times(60, "pay", 0, 50, 1);
            c.refuses(BAD, "pay", 1, 10, 1).refuses(BAD, "pay", -1, 10, 1).refuses(BAD, "pay", 0, 9, 1);
            c.refuses(BAD, "pay", 0, 100, 1).refuses(BAD, "pay", 0, 10, 0).refuses(BAD, "pay", 0, 10, 1000001);
            c.refuses(FULL, "pay", 0, 10, 1);
        });
    }

    // ---- promise 13: OWED

    private static void owed() {
        Consumer<Case> two = c -> c.merchants(2).tell("debt", 0, 1, 70, 0, 99).tell("debt", 0, 1, 80, 99, 99);
        CASES.bounds(BAD, two, "owed", 0, 99).number(0, 0, 70, 1, 80);
        CASES.bounds(BAD, two, "owed", 0, 50).number(1, 0, 70, 99, 70);
        CASES.test("owed: 0 ahead of the SEASON in which it was lent", c -> {
            c.merchants(2).tell("debt", 0, 1, 70, 10, 20).gives(0, "owed", 0, 0).gives(0, "owed", 0, 9);
            c.gives(70, "owed", 0, 10);
        });
        CASES.test("owed: lent and due in SEASON 99", c -> two.andThen(d -> {
            d.gives(0, "owed", 1, 98).gives(80, "owed", 1, 99);
        }).accept(c));
        CASES.test("owed: in the due SEASON and behind it", c -> {
            c.merchants(2).tell("debt", 0, 1, 1000, 10, 20).gives(1000, "owed", 0, 19);
            c.gives(1000, "owed", 0, 20).gives(1030, "owed", 0, 21);
        });
        CASES.test("owed: due when lent", c -> {
            c.merchants(2).tell("debt", 0, 1, 1000, 10, 10).gives(1000, "owed", 0, 10).gives(1030, "owed", 0, 11);
        });
        CASES.test("owed: due in SEASON 98", c -> {
            c.merchants(2).tell("debt", 0, 1, 1000, 0, 98).gives(1000, "owed", 0, 98).gives(1030, "owed", 0, 99);
        });
        CASES.test("owed: due in SEASON 99", c -> {
            c.merchants(2).tell("debt", 0, 1, 1000, 0, 99).gives(1000, "owed", 0, 99);
        });
        CASES.test("owed: due in SEASON 0", c -> {
            c.merchants(2).tell("debt", 0, 1, 1000, 0, 0).gives(1000, "owed", 0, 0).gives(1030, "owed", 0, 1);
            c.gives(1060, "owed", 0, 2).gives(1091, "owed", 0, 3);
        });
    }

    private static void paidOff() {
        Consumer<Case> hundred = c -> c.merchants(2).tell("debt", 0, 1, 100, 10, 20);
        CASES.test("owed: paid in the SEASON in which it was lent", c -> {
            hundred.accept(c);
            c.gives(1, "pay", 0, 10, 40).gives(60, "owed", 0, 10).gives(0, "owed", 0, 9);
        });
        CASES.test("owed: ahead of a payment and in its SEASON", c -> {
            hundred.accept(c);
            c.gives(1, "pay", 0, 15, 40).gives(100, "owed", 0, 14).gives(60, "owed", 0, 15).gives(60, "owed", 0, 16);
        });
        CASES.test("owed: paid in SEASON 99", c -> {
            c.merchants(2).tell("debt", 0, 1, 100, 0, 99).gives(1, "pay", 0, 99, 40);
            c.gives(100, "owed", 0, 98).gives(60, "owed", 0, 99);
        });
        CASES.test("owed: one shekel is left", c -> {
            hundred.accept(c);
            c.gives(1, "pay", 0, 10, 99).gives(1, "owed", 0, 10).gives(1, "owed", 0, 99);
        });
        CASES.test("owed: all is paid", c -> {
            hundred.accept(c);
            c.gives(1, "pay", 0, 10, 100).gives(0, "owed", 0, 10).gives(0, "owed", 0, 99);
        });
        CASES.test("owed: no more than there is owed goes off", c -> {
            hundred.accept(c);
            c.gives(1, "pay", 0, 10, 101).gives(0, "owed", 0, 10).gives(0, "owed", 0, 99);
            c.gives(0, "balance", 0, 10).gives(0, "balance", 1, 99);
        });
        CASES.test("owed: at most is paid", c -> {
            hundred.accept(c);
            c.times(60, "pay", 0, 10, 1000000).gives(0, "owed", 0, 10).gives(0, "owed", 0, 99);
        });
        CASES.test("owed: two payments of one SEASON", c -> {
            hundred.accept(c);
            c.gives(1, "pay", 0, 12, 40).gives(2, "pay", 0, 12, 59).gives(1, "owed", 0, 12);
            c.gives(3, "pay", 0, 12, 1).gives(0, "owed", 0, 12);
        });
        CASES.test("owed: told in another order than of their SEASONS", c -> {
            hundred.accept(c);
            c.gives(1, "pay", 0, 15, 40).gives(2, "pay", 0, 12, 30).gives(70, "owed", 0, 12).gives(30, "owed", 0, 15);
        });
        CASES.test("owed: payments of another DEBT do not count", c -> {
            hundred.accept(c);
            c.tell("debt", 0, 1, 100, 10, 20).gives(1, "pay", 1, 10, 40).gives(100, "owed", 0, 10);
            c.gives(60, "owed", 1, 10);
        });
    }

    private static void growth() {
        CASES.test("owed: payments go off ahead of the growth", c -> {
            c.merchants(2).tell("debt", 0, 1, 1100, 0, 0).gives(1, "pay", 0, 1, 100).gives(1030, "owed", 0, 1);
        });
        CASES.test("owed: growth is cut to nothing at 33", c -> {
            c.merchants(2).tell("debt", 0, 1, 33, 0, 0).gives(33, "owed", 0, 1).gives(33, "owed", 0, 99);
        });
        CASES.test("owed: growth is 1 at 34", c -> {
            c.merchants(2).tell("debt", 0, 1, 34, 0, 0).gives(35, "owed", 0, 1).gives(36, "owed", 0, 2);
        });
        CASES.test("owed: growth is 1 at 66, 2 at 67", c -> {
            c.merchants(2).tell("debt", 0, 1, 66, 0, 0).tell("debt", 0, 1, 67, 0, 0);
            c.gives(67, "owed", 0, 1).gives(69, "owed", 1, 1);
        });
        CASES.test("owed: growth by growth", c -> {
            c.merchants(2).tell("debt", 0, 1, 1000000, 0, 0).gives(1030000, "owed", 0, 1);
            c.gives(1060900, "owed", 0, 2).gives(1092727, "owed", 0, 3);
        });
        CASES.test("owed: paid behind the due SEASON", c -> {
            c.merchants(2).tell("debt", 0, 1, 1000, 5, 8).gives(1, "pay", 0, 10, 60).gives(1030, "owed", 0, 9);
            c.gives(999, "owed", 0, 10).gives(1028, "owed", 0, 11);
        });
        CASES.test("owed: 1 grows where RATE is 1000", c -> {
            c.merchants(2).act("1000", RATE, 0).tell("debt", 0, 1, 1, 0, 0).gives(2, "owed", 0, 1);
            c.gives(1024, "owed", 0, 10);
        });
        CASES.test("owed: 1 does not grow where RATE is 999", c -> {
            c.merchants(2).act("999", RATE, 0).tell("debt", 0, 1, 1, 0, 0).gives(1, "owed", 0, 99);
        });
    }

    /** What 1000 shekels become in a SEASON by what the text tells. */
    private static void rate(String text, long due) {
        CASES.test("RATE by '" + text + "'", c -> {
            c.merchants(2).act(text, RATE, 0).tell("debt", 0, 1, 1000, 0, 0).gives(due, "owed", 0, 1);
        });
    }

    private static void rateOfTheSeason() {
        rate("0", 1000);
        rate("-1", 1000);
        rate("1", 1001);
        rate("999", 1999);
        rate("1000", 2000);
        rate("1001", 2000);
        rate("999999*999999*999999", 2000);
        rate("-999999*999999*999999", 1000);
        CASES.test("RATE without an ACT is 30, from its SEASON on by it", c -> {
            c.merchants(2).act("100", RATE, 3).tell("debt", 0, 1, 1000, 0, 0).gives(1060, "owed", 0, 2);
            c.gives(1166, "owed", 0, 3);
        });
        CASES.test("RATE of an ACT from SEASON 99 on", c -> {
            c.merchants(2).act("100", RATE, 99).tell("debt", 0, 1, 1000, 0, 97).gives(1030, "owed", 0, 98);
            c.gives(1133, "owed", 0, 99);
        });
        CASES.test("RATE of each SEASON by the ACT IN FORCE then", c -> {
            c.merchants(2).act("100", RATE, 2).act("200", RATE, 4).tell("debt", 0, 1, 1000, 0, 0);
            c.gives(1030, "owed", 0, 1).gives(1133, "owed", 0, 2).gives(1246, "owed", 0, 3).gives(1495, "owed", 0, 4);
        });
        CASES.test("RATE by no ACT of another sort", c -> {
            c.merchants(2).act("100", TOLL, 0).act("200", SHARE, 0).tell("debt", 0, 1, 1000, 0, 0);
            c.gives(1030, "owed", 0, 1);
        });
    }

    private static void rateByNumbers() {
        CASES.test("RATE: g is 0", c -> {
            c.merchants(2).act("g+10", RATE, 0).tell("debt", 0, 1, 1000, 0, 0).gives(1010, "owed", 0, 1);
        });
        CASES.test("RATE: k is 1 of both of one HOUSE, in any TOWN", c -> {
            c.tell("merchant", 3, 0).tell("merchant", 3, 1).tell("merchant", 3, 0).act("k?100:200", RATE, 0);
            c.tell("debt", 0, 1, 1000, 0, 0).tell("debt", 0, 2, 1000, 0, 0);
            c.gives(1100, "owed", 0, 1).gives(1100, "owed", 1, 1);
        });
        CASES.test("RATE: k is 0 of two HOUSES, in one TOWN", c -> {
            c.tell("merchant", 3, 1).tell("merchant", 4, 1).act("k?100:200", RATE, 0);
            c.tell("debt", 0, 1, 1000, 0, 0).gives(1200, "owed", 0, 1);
        });
        CASES.test("RATE: k is a truth, 1 or 0", c -> {
            c.tell("merchant", 3, 1).tell("merchant", 3, 1).tell("merchant", 4, 1).act("k*100", RATE, 0);
            c.tell("debt", 0, 1, 1000, 0, 0).tell("debt", 0, 2, 1000, 0, 0);
            c.gives(1100, "owed", 0, 1).gives(1000, "owed", 1, 1);
        });
        CASES.test("RATE: k of any two", c -> {
            fourOfTwo(c);
            c.act("k*100+100", RATE, 0);
            debtsOfAnyTwo(c, (lender, owes) -> lender / 2 == owes / 2 ? 1200 : 1100);
        });
        CASES.test("RATE: t of any two", c -> {
            fourOfTwo(c);
            c.act("t*100+100", RATE, 0);
            debtsOfAnyTwo(c, (lender, owes) -> owes % 2 == 0 ? 1200 : 1100);
        });
        CASES.test("RATE: t is the TOWN of who owes", c -> {
            c.tell("merchant", 0, 0).tell("merchant", 0, 1).act("t*100", RATE, 0);
            c.tell("debt", 0, 1, 1000, 0, 0).tell("debt", 1, 0, 1000, 0, 0);
            c.gives(1100, "owed", 0, 1).gives(1000, "owed", 1, 1);
        });
        CASES.test("RATE: s is the SEASON of the growth", c -> {
            c.merchants(2).act("s*100", RATE, 0).tell("debt", 0, 1, 1000, 0, 0);
            c.gives(1100, "owed", 0, 1).gives(1320, "owed", 0, 2).gives(1716, "owed", 0, 3);
        });
        CASES.test("RATE: w is what is owed behind the payments", c -> {
            c.merchants(2).act("w=900?100:0", RATE, 0).tell("debt", 0, 1, 1000, 0, 0).gives(1, "pay", 0, 1, 100);
            c.gives(990, "owed", 0, 1).gives(990, "owed", 0, 2);
        });
        CASES.test("RATE: w is what has grown", c -> {
            c.merchants(2).act("w>1000?100:1", RATE, 0).tell("debt", 0, 1, 1000, 0, 0);
            c.gives(1001, "owed", 0, 1).gives(1101, "owed", 0, 2);
        });
    }

    private interface Due {
        long of(int one, int other);
    }

    /** Merchants 0 and 1 of one HOUSE, 2 and 3 of another one; 0 and 2 of TOWN 1, 1 and 3 of TOWN 0. */
    private static void fourOfTwo(Case c) {
        c.tell("merchant", 4, 1).tell("merchant", 4, 0).tell("merchant", 2, 1).tell("merchant", 2, 0);
    }

    /** Each of four has lent 1000 to each other one: what is owed in the SEASON behind the due one. */
    private static void debtsOfAnyTwo(Case c, Due due) {
        int debts = 0;
        for (int lender = 3; lender >= 0; lender--) {
            for (int owes = 0; owes < 4; owes++) {
                if (lender != owes) {
                    c.gives(debts, "debt", lender, owes, 1000, 0, 0).gives(due.of(lender, owes), "owed", debts, 1);
                    debts++;
                }
            }
        }
        debts = 0;
        for (int lender = 3; lender >= 0; lender--) {
            for (int owes = 0; owes < 4; owes++) {
                if (lender != owes) {
                    c.gives(due.of(lender, owes), "owed", debts, 1);
                    debts++;
                }
            }
        }
    }

    /** By this RATE a sum grows tenfold in four SEASONS, to the shekel. */
    private static final String TENFOLD = "s/4*4=s?250:1000";

    private static void mostOwed() {
        CASES.test("owed: 1000000000000 is owed", c -> {
            c.merchants(2).act(TENFOLD, RATE, 0).tell("debt", 0, 1, 1000000, 0, 0);
            c.gives(800000000000L, "owed", 0, 23).gives(MOST_OWED, "owed", 0, 24).gives(MOST_OWED, "owed", 0, 25);
        });
        CASES.test("owed: less than 1000000000000 is owed as it is", c -> {
            c.merchants(2).act(TENFOLD, RATE, 0).tell("debt", 0, 1, 999999, 0, 0);
            c.gives(999999000000L, "owed", 0, 24).gives(MOST_OWED, "owed", 0, 25).gives(MOST_OWED, "owed", 0, 99);
        });
        CASES.test("owed: 1048576000000 would be owed", c -> {
            c.merchants(2).act("1000", RATE, 0).tell("debt", 0, 1, 1000000, 0, 0);
            c.gives(524288000000L, "owed", 0, 19).gives(MOST_OWED, "owed", 0, 20).gives(MOST_OWED, "owed", 0, 99);
            c.gives(MOST_OWED, "balance", 0, 99).gives(-MOST_OWED, "balance", 1, 99);
        });
        CASES.test("owed: what is paid goes off the most", c -> {
            c.merchants(2).act("1000", RATE, 0).act("0", RATE, 98).tell("debt", 0, 1, 1000000, 0, 0);
            c.gives(1, "pay", 0, 98, 1000000).gives(MOST_OWED, "owed", 0, 97).gives(999999000000L, "owed", 0, 98);
        });
        CASES.test("owed: 40 DEBTS of the most", c -> {
            c.merchants(2).act("1000", RATE, 0).times(40, "debt", 0, 1, 1000000, 0, 0);
            c.gives(40 * MOST_OWED, "balance", 0, 99).gives(-40 * MOST_OWED, "balance", 1, 99);
        });
    }

    // ---- promises 11 and 12: envelopes

    private static void seals() {
        Consumer<Case> two = c -> c.merchants(2).tell("debt", 0, 1, 70, 0, 99).tell("debt", 0, 1, 80, 0, 99);
        CASES.bounds(BAD, two, "seal", 1, 50).number(0, 0, 1, 1, 1).number(1, 1, 1, 1000000, 1);
        CASES.test("seal: once", c -> {
            two.accept(c);
            c.gives(1, "seal", 0, 50).refuses(NO, "seal", 0, 50).refuses(NO, "seal", 0, 60).gives(50, "owed", 0, 0);
            c.gives(1, "seal", 1, 60).gives(60, "owed", 1, 0);
        });
        CASES.test("seal: not again when it was broken", c -> {
            two.accept(c);
            c.gives(1, "seal", 0, 50).gives(1, "breaks", 0, 0).refuses(NO, "seal", 0, 60).gives(70, "owed", 0, 0);
        });
        CASES.test("seal: BAD ahead of NO", c -> {
            two.accept(c);
            c.gives(1, "seal", 0, 50).refuses(BAD, "seal", 0, 0).refuses(BAD, "seal", 0, 1000001);
            c.refuses(NO, "seal", 0, 1);
        });
        CASES.test("seal: 1 outside", c -> two.andThen(d -> d.gives(1, "seal", 0, 1).gives(1, "owed", 0, 99)).accept(c));
        CASES.test("seal: 1000000 outside", c -> {
            two.accept(c);
            c.gives(1, "seal", 0, 1000000).gives(1000000, "owed", 0, 99).gives(80, "owed", 1, 99);
        });
    }

    private static void breaks() {
        Consumer<Case> sealed = c -> {
            c.merchants(2).tell("debt", 0, 1, 70, 10, 99).tell("debt", 0, 1, 80, 10, 99);
            c.tell("seal", 0, 5).tell("seal", 1, 6);
        };
        CASES.bounds(BAD, sealed, "breaks", 1, 50).number(0, 0, 1, 1, 1).number(1, 0, 1, 99, 1);
        CASES.test("breaks: NO: it has none", c -> {
            c.merchants(2).tell("debt", 0, 1, 70, 10, 99).refuses(NO, "breaks", 0, 50).gives(70, "owed", 0, 50);
        });
        CASES.test("breaks: NO: it was broken", c -> {
            sealed.accept(c);
            c.gives(1, "breaks", 0, 50).refuses(NO, "breaks", 0, 50).refuses(NO, "breaks", 0, 20);
            c.gives(5, "owed", 0, 49).gives(70, "owed", 0, 50).gives(1, "breaks", 1, 20);
        });
        CASES.test("breaks: NO: it was broken in SEASON 0", c -> {
            sealed.accept(c);
            c.gives(1, "breaks", 0, 0).refuses(NO, "breaks", 0, 99).gives(70, "owed", 0, 10);
        });
        CASES.test("breaks: BAD ahead of NO", c -> {
            c.merchants(2).tell("debt", 0, 1, 70, 10, 99).refuses(BAD, "breaks", 0, 100).refuses(BAD, "breaks", 0, -1);
            c.tell("seal", 0, 5).tell("breaks", 0, 50).refuses(BAD, "breaks", 0, 100).refuses(BAD, "breaks", 1, 50);
            c.refuses(NO, "breaks", 0, 50);
        });
        CASES.test("breaks: a refused one leaves it closed", c -> {
            sealed.accept(c);
            c.refuses(BAD, "breaks", 0, 100).gives(5, "owed", 0, 99).gives(1, "breaks", 0, 99).gives(70, "owed", 0, 99);
        });
    }

    private static void envelopes() {
        Consumer<Case> sealed = c -> c.merchants(2).tell("debt", 0, 1, 1000, 10, 20).tell("seal", 0, 500);
        CASES.test("an ENVELOPE: the outside counts until it is broken", c -> {
            sealed.accept(c);
            c.gives(0, "owed", 0, 9).gives(500, "owed", 0, 10).gives(515, "owed", 0, 21);
        });
        CASES.test("an ENVELOPE: ahead of its breaking and from then on", c -> {
            sealed.accept(c);
            c.gives(1, "breaks", 0, 15).gives(500, "owed", 0, 14).gives(1000, "owed", 0, 15).gives(1000, "owed", 0, 16);
            c.gives(500, "balance", 0, 14).gives(1000, "balance", 0, 15);
        });
        CASES.test("an ENVELOPE: as if it had always been so", c -> {
            sealed.accept(c);
            c.gives(1, "breaks", 0, 22).gives(515, "owed", 0, 21).gives(1060, "owed", 0, 22);
        });
        CASES.test("an ENVELOPE: broken in SEASON 99", c -> {
            sealed.accept(c);
            c.gives(1, "breaks", 0, 99).gives(500, "owed", 0, 20).gives(-500, "balance", 1, 20);
            c.act("0", RATE, 0).gives(500, "owed", 0, 98).gives(1000, "owed", 0, 99);
        });
        CASES.test("an ENVELOPE: broken in SEASON 0", c -> {
            c.merchants(2).tell("debt", 0, 1, 1000, 0, 20).tell("seal", 0, 500).gives(1, "breaks", 0, 0);
            c.gives(1000, "owed", 0, 0);
        });
        CASES.test("an ENVELOPE: broken ahead of the SEASON in which it was lent", c -> {
            sealed.accept(c);
            c.gives(1, "breaks", 0, 9).gives(0, "owed", 0, 9).gives(1000, "owed", 0, 10);
        });
        CASES.test("an ENVELOPE: broken in the SEASON in which it was lent", c -> {
            sealed.accept(c);
            c.gives(1, "breaks", 0, 10).gives(0, "owed", 0, 9).gives(1000, "owed", 0, 10);
        });
        CASES.test("an ENVELOPE: paid as far as the outside goes, then as far as the sum", c -> {
            sealed.accept(c);
            c.gives(1, "pay", 0, 12, 600).gives(1, "breaks", 0, 15).gives(0, "owed", 0, 12).gives(0, "owed", 0, 14);
            c.gives(400, "owed", 0, 15);
        });
        CASES.test("an ENVELOPE: all that is asked of its SEASONS", c -> {
            c.merchants(2).tell("debt", 0, 1, 100, 0, 99).tell("debt", 1, 0, 50, 0, 99).tell("seal", 0, 50);
            c.gives(1, "breaks", 0, 5).gives(0, "fewest", 4).gives(1, "fewest", 5);
            c.gives(0, "balance", 0, 4).gives(50, "balance", 0, 5);
        });
        CASES.test("an ENVELOPE: w of RATE is by the outside", c -> {
            c.merchants(2).act("w>99?100:10", RATE, 0).tell("debt", 0, 1, 1000, 0, 0).tell("seal", 0, 99);
            c.gives(99, "owed", 0, 1).gives(1, "breaks", 0, 2).gives(1210, "owed", 0, 2);
        });
    }

    // ---- promise 14

    private static void purses() {
        CASES.bounds(BAD, THREE, "purse", 1, 5, 7)
                .number(0, 0, 0, 2, 0).number(1, 0, 0, 99, 0).number(2, 1, 0, 10000, 0);
        CASES.test("purse: 0 .. 2 as they come, the 4th is too many", c -> {
            c.merchants(2).gives(0, "purse", 0, 5, 1).gives(1, "purse", 1, 6, 2).gives(2, "purse", 0, 7, 3);
            c.refuses(FULL, "purse", 0, 5, 1).gives(3, "count", 4);
        });
        CASES.test("purse: BAD ahead of FULL", c -> {
            c.merchants(1).times(3, "purse", 0, 5, 1).refuses(BAD, "purse", 1, 5, 1).refuses(BAD, "purse", 0, 100, 1);
            c.refuses(BAD, "purse", 0, -1, 1).refuses(BAD, "purse", 0, 5, 0).refuses(BAD, "purse", 0, 5, 10001);
            c.refuses(FULL, "purse", 0, 5, 1);
        });
        CASES.test("purse: nobody has shares in a new one", c -> {
            c.merchants(2).tell("purse", 0, 5, 1).refuses(NO, "leave", 0, 0, 4).refuses(NO, "leave", 0, 1, 4);
        });
    }

    // ---- promise 15

    private static void shares() {
        Consumer<Case> two = c -> c.merchants(3).tell("purse", 0, 5, 5).tell("purse", 1, 5, 5);
        CASES.bounds(BAD, two, "share", 1, 1, 4)
                .number(0, 0, 4, 1, 4).number(1, 0, 4, 2, 4).number(2, 1, 1, 30, 30);
        CASES.test("share: 30 of one, not one more", c -> {
            two.accept(c);
            c.gives(30, "share", 0, 1, 30).refuses(NO, "share", 0, 1, 1).refuses(NO, "share", 0, 0, 1);
            c.refuses(NO, "share", 0, 2, 30);
        });
        CASES.test("share: 29 and 1 of one", c -> {
            two.accept(c);
            c.gives(29, "share", 0, 1, 29).refuses(NO, "share", 0, 1, 2).gives(30, "share", 0, 1, 1);
        });
        CASES.test("share: 30 in all", c -> {
            two.accept(c);
            c.gives(10, "share", 0, 0, 10).gives(15, "share", 0, 1, 15).refuses(NO, "share", 0, 2, 6);
            c.gives(5, "share", 0, 2, 5).refuses(NO, "share", 0, 2, 1).refuses(NO, "share", 0, 0, 1);
        });
        CASES.test("share: 30 of ten", c -> {
            c.merchants(10).tell("purse", 0, 5, 5);
            for (int m = 0; m < 10; m++) {
                c.gives(3, "share", 0, m, 3);
            }
            c.refuses(NO, "share", 0, 0, 1).refuses(NO, "share", 0, 9, 1);
        });
        CASES.test("share: 30 of each PURSE", c -> two.andThen(d -> {
            d.gives(30, "share", 0, 1, 30).gives(30, "share", 1, 1, 30).refuses(NO, "share", 1, 0, 1);
        }).accept(c));
        CASES.test("share: BAD ahead of NO", c -> {
            two.accept(c);
            c.tell("share", 0, 1, 30).refuses(BAD, "share", 0, 3, 1).refuses(BAD, "share", 0, 1, 0);
            c.refuses(BAD, "share", 0, 1, 31).refuses(BAD, "share", 0, -1, 1).refuses(BAD, "share", 2, 1, 1);
            c.refuses(NO, "share", 0, 1, 1);
        });
        CASES.test("share: again when one has left", c -> {
            two.accept(c);
            c.tell("share", 0, 1, 20).tell("share", 0, 2, 10).gives(100, "leave", 0, 1, 0);
            c.refuses(NO, "share", 0, 2, 21).gives(30, "share", 0, 2, 20);
        });
    }

    // ---- promise 16

    private static void leaving() {
        Consumer<Case> two = c -> {
            c.merchants(3).tell("purse", 0, 10, 5).tell("purse", 1, 20, 7);
            c.tell("share", 0, 0, 1).tell("share", 0, 2, 3).tell("share", 1, 0, 4);
        };
        CASES.bounds(BAD, two, "leave", 0, 0, 5).number(0, 0, 5, 1, 28).number(2, 0, 5, 9, 5).refused(2, 10);
        CASES.bounds(BAD, two, "leave", 0, 2, 5).number(1, 0, 5, 2, 15);
        CASES.test("leave: a PURSE that ends in SEASON 0", c -> {
            c.merchants(1).tell("purse", 0, 0, 5).tell("share", 0, 0, 1).refuses(BAD, "leave", 0, 0, 0);
        });
        CASES.test("leave: a PURSE that ends in SEASON 1", c -> {
            c.merchants(1).tell("purse", 0, 1, 5).tell("share", 0, 0, 1).refuses(BAD, "leave", 0, 0, 1);
            c.gives(5, "leave", 0, 0, 0);
        });
        CASES.test("leave: a PURSE that ends in SEASON 99", c -> {
            c.merchants(1).tell("purse", 0, 99, 5).tell("share", 0, 0, 1).refuses(BAD, "leave", 0, 0, 99);
            c.gives(5, "leave", 0, 0, 98);
        });
        CASES.test("leave: NO: he has no shares", c -> {
            two.accept(c);
            c.refuses(NO, "leave", 0, 1, 5).refuses(NO, "leave", 1, 2, 5);
        });
        CASES.test("leave: his shares are none then", c -> {
            two.accept(c);
            c.gives(15, "leave", 0, 2, 5).refuses(NO, "leave", 0, 2, 5).refuses(NO, "leave", 0, 2, 0);
            c.gives(0, "parted", 0, 100, 2).gives(5, "leave", 0, 0, 5).gives(28, "leave", 1, 0, 5);
        });
        CASES.test("leave: BAD ahead of NO", c -> {
            two.accept(c);
            c.refuses(BAD, "leave", 0, 1, 10).refuses(BAD, "leave", 0, 1, 99).refuses(BAD, "leave", 0, 1, 100);
            c.refuses(BAD, "leave", 0, 1, -1).refuses(BAD, "leave", 0, 3, 5).refuses(BAD, "leave", 2, 1, 5);
            c.refuses(NO, "leave", 0, 1, 9);
        });
        CASES.test("leave: at most", c -> {
            c.merchants(1).act("200", SHARE, 0).tell("purse", 0, 99, 10000).tell("share", 0, 0, 30);
            c.gives(600000, "leave", 0, 0, 0);
        });
    }

    /** What 3 shares of 11 shekels give by what the text tells. */
    private static void share(String text, long due) {
        CASES.test("SHARE by '" + text + "'", c -> {
            c.merchants(2).act(text, SHARE, 0).tell("purse", 0, 99, 11).tell("share", 0, 1, 3);
            c.gives(due, "leave", 0, 1, 7);
        });
    }

    private static void leavingByShare() {
        share("0", 0);
        share("-1", 0);
        share("3", 0);
        share("4", 1);
        share("99", 32);
        share("100", 33);
        share("199", 65);
        share("200", 66);
        share("201", 66);
        share("999999*999999*999999", 66);
        share("-999999*999999*999999", 0);
        share("s*10", 23);
        share("w=33?200:0", 66);
        share("t=1?200:0", 66);
        share("k=0?200:0", 66);
        for (int told = 199; told <= 202; told++) {
            String text = Integer.toString(told);
            CASES.test("SHARE of 10000 shekels by '" + text + "'", c -> {
                c.merchants(1).act(text, SHARE, 0).tell("purse", 0, 99, 10000).tell("share", 0, 0, 1);
                c.gives(text.equals("199") ? 19900 : 20000, "leave", 0, 0, 7);
            });
        }
        CASES.test("SHARE: g is 0", c -> {
            c.merchants(1).act("g+50", SHARE, 0).tell("purse", 0, 99, 10000).tell("share", 0, 0, 1);
            c.gives(5000, "leave", 0, 0, 7);
        });
        CASES.test("SHARE without an ACT is 100, from its SEASON on by it", c -> {
            c.merchants(2).act("50", SHARE, 7).tell("purse", 0, 99, 10).tell("share", 0, 1, 3).tell("share", 0, 0, 3);
            c.gives(30, "leave", 0, 1, 6).gives(15, "leave", 0, 0, 7);
        });
        CASES.test("SHARE by no ACT of another sort", c -> {
            c.merchants(1).act("50", TOLL, 0).act("60", RATE, 0).tell("purse", 0, 99, 10).tell("share", 0, 0, 3);
            c.gives(30, "leave", 0, 0, 6);
        });
        CASES.test("SHARE: k is 1 of the MANAGER himself and of his KIN", c -> {
            c.tell("merchant", 2, 0).tell("merchant", 2, 1).tell("merchant", 1, 0).act("k?200:50", SHARE, 0);
            c.tell("purse", 0, 99, 10).tell("share", 0, 0, 1).tell("share", 0, 1, 1).tell("share", 0, 2, 1);
            c.gives(20, "leave", 0, 0, 0).gives(20, "leave", 0, 1, 0).gives(5, "leave", 0, 2, 0);
        });
        CASES.test("SHARE: t is his TOWN, not the MANAGER's", c -> {
            c.tell("merchant", 2, 1).tell("merchant", 2, 0).act("t?200:50", SHARE, 0).tell("purse", 0, 99, 10);
            c.tell("share", 0, 0, 1).tell("share", 0, 1, 1).gives(20, "leave", 0, 0, 0).gives(5, "leave", 0, 1, 0);
        });
        share("k*100", 0);
        CASES.test("SHARE: k is a truth, 1 or 0", c -> {
            c.tell("merchant", 2, 0).tell("merchant", 2, 1).tell("merchant", 1, 0).act("k*100", SHARE, 0);
            c.tell("purse", 0, 99, 10).tell("share", 0, 0, 1).tell("share", 0, 1, 1).tell("share", 0, 2, 1);
            c.gives(10, "leave", 0, 0, 0).gives(10, "leave", 0, 1, 0).gives(0, "leave", 0, 2, 0);
        });
        CASES.test("SHARE: k of any two", c -> {
            fourOfTwo(c);
            c.act("k*100+100", SHARE, 0);
            leavesOfAnyTwo(c, (manager, merchant) -> manager / 2 == merchant / 2 ? 20 : 10);
        });
        CASES.test("SHARE: t of any two", c -> {
            fourOfTwo(c);
            c.act("t*100+100", SHARE, 0);
            leavesOfAnyTwo(c, (manager, merchant) -> merchant % 2 == 0 ? 20 : 10);
        });
        CASES.test("SHARE: one share of one shekel", c -> {
            c.merchants(1).act("99", SHARE, 0).tell("purse", 0, 99, 1).tell("share", 0, 0, 1);
            c.gives(0, "leave", 0, 0, 0).refuses(NO, "leave", 0, 0, 0);
        });
    }

    /** Merchants 3, 2 and 1 manage a PURSE each, in which each of four has a share of 10 shekels. */
    private static void leavesOfAnyTwo(Case c, Due due) {
        for (int purse = 0; purse < 3; purse++) {
            c.gives(purse, "purse", 3 - purse, 99 - purse, 10);
            for (int merchant = 0; merchant < 4; merchant++) {
                c.gives(1, "share", purse, merchant, 1);
            }
        }
        for (int purse = 0; purse < 3; purse++) {
            for (int merchant = 0; merchant < 4; merchant++) {
                c.gives(due.of(3 - purse, merchant), "leave", purse, merchant, 50);
            }
        }
    }

    // ---- promise 17

    private static void parted() {
        Consumer<Case> two = c -> {
            c.merchants(3).tell("purse", 0, 10, 5).tell("purse", 1, 20, 7);
            c.tell("share", 0, 0, 1).tell("share", 0, 2, 3).tell("share", 1, 0, 4);
        };
        CASES.bounds(BAD, two, "parted", 0, 1000, 0).number(0, 0, 333 + 166 + 1, 1, 667).number(2, 0, 500, 2, 500);
        CASES.bounds(BAD, two, "parted", 0, 1000, 2).number(1, 0, 0, 100000000, 50000000);
        CASES.bounds(BAD, two, "parted", 0, 1000, 0).number(1, 0, 0, 100000000, 33333333 + 16666666 + 1);
        CASES.test("parted: to one without shares", c -> two.andThen(d -> d.gives(0, "parted", 0, 1000, 1)).accept(c));
        CASES.test("parted: each PURSE by its own MANAGER and shares", c -> {
            c.merchants(4).tell("purse", 3, 1, 5).tell("purse", 1, 2, 7).tell("purse", 2, 0, 9);
            c.tell("share", 0, 0, 30).tell("share", 1, 0, 10).tell("share", 1, 1, 10).tell("share", 2, 3, 1);
            int[][] gets = {{20, 0, 0, 10}, {10, 20, 0, 0}, {0, 0, 10, 20}};
            for (int purse = 0; purse < 3; purse++) {
                for (int m = 0; m < 4; m++) {
                    c.gives(gets[purse][m], "parted", purse, 30, m);
                }
            }
        });
        CASES.test("parted: it changes nothing, at its end or ahead of it", c -> {
            two.accept(c);
            c.gives(500, "parted", 0, 1000, 2).gives(500, "parted", 0, 1000, 2).gives(15, "leave", 0, 2, 0);
        });
    }

    private static void partedRest() {
        Consumer<Case> none = c -> c.merchants(3).tell("purse", 1, 10, 5);
        for (int shekels : new int[] {0, 1, 2, 3, 100, 100000000}) {
            CASES.test("parted: " + shekels + " where there are no shares", c -> {
                none.accept(c);
                c.gives(shekels, "parted", 0, shekels, 1).gives(0, "parted", 0, shekels, 0);
            });
        }
        int[][] thirds = {{0, 0, 0}, {1, 0, 1}, {2, 0, 2}, {3, 1, 2}, {4, 1, 3}, {5, 1, 4}, {6, 2, 4}};
        for (int[] row : thirds) {
            CASES.test("parted: a third of " + row[0] + " is cut", c -> {
                none.accept(c);
                c.tell("share", 0, 0, 30).gives(row[1], "parted", 0, row[0], 1).gives(row[2], "parted", 0, row[0], 0);
            });
        }
        CASES.test("parted: what is cut goes to the MANAGER", c -> {
            none.accept(c);
            c.tell("share", 0, 0, 1).tell("share", 0, 2, 2).gives(222, "parted", 0, 1000, 0);
            c.gives(444, "parted", 0, 1000, 2).gives(334, "parted", 0, 1000, 1);
        });
        CASES.test("parted: the MANAGER has shares himself", c -> {
            none.accept(c);
            c.tell("share", 0, 0, 1).tell("share", 0, 1, 1).tell("share", 0, 2, 1).gives(222, "parted", 0, 1000, 0);
            c.gives(222, "parted", 0, 1000, 2).gives(333 + 222 + 1, "parted", 0, 1000, 1);
        });
        CASES.test("parted: the MANAGER has all shares", c -> {
            none.accept(c);
            c.tell("share", 0, 1, 30).gives(1000, "parted", 0, 1000, 1).gives(0, "parted", 0, 1000, 0);
        });
        CASES.test("parted: one share of 30 of less than 30 shekels", c -> {
            none.accept(c);
            c.tell("share", 0, 0, 1).tell("share", 0, 2, 29).gives(0, "parted", 0, 43, 0);
            c.gives(28, "parted", 0, 43, 2).gives(15, "parted", 0, 43, 1).gives(1, "parted", 0, 45, 0);
        });
        CASES.test("parted: one share in all", c -> {
            none.accept(c);
            c.tell("share", 0, 2, 1).gives(667, "parted", 0, 1000, 2).gives(333, "parted", 0, 1000, 1);
            c.gives(0, "parted", 0, 1000, 0);
        });
        CASES.test("parted: all who had shares have left", c -> {
            none.accept(c);
            c.tell("share", 0, 0, 5).tell("leave", 0, 0, 0).gives(1000, "parted", 0, 1000, 1);
            c.gives(0, "parted", 0, 1000, 0);
        });
        CASES.test("parted: at most, all shares of one", c -> {
            none.accept(c);
            c.tell("share", 0, 0, 30).gives(66666667, "parted", 0, 100000000, 0);
            c.gives(33333333, "parted", 0, 100000000, 1);
        });
    }
}
