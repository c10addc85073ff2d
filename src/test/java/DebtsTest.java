/** Promises 9 to 17: debts, payments, envelopes, purses. */
public final class DebtsTest {
    private static final int MAX = Integer.MAX_VALUE;
    private static final Check CHECK = new Check("DebtsTest");

    public static void main(String[] args) {
        debts();
        payments();
        owed();
        owedAtEdges();
        rates();
        atMost();
        envelopes();
        envelopesRefused();
        purses();
        shares();
        newPurse();
        leaving();
        parting();
        CHECK.end();
    }

    private static void debts() {
        TinHouse x = Check.withMerchants(3);
        CHECK.due("lender", x.debt(3, 1, 1, 0, 0), TinHouse.BAD);
        CHECK.due("lender below", x.debt(-1, 1, 1, 0, 0), TinHouse.BAD);
        CHECK.due("owes", x.debt(0, 3, 1, 0, 0), TinHouse.BAD);
        CHECK.due("owes below", x.debt(0, -1, 1, 0, 0), TinHouse.BAD);
        CHECK.due("alike", x.debt(1, 1, 1, 0, 0), TinHouse.BAD);
        CHECK.due("sum 0", x.debt(0, 1, 0, 0, 0), TinHouse.BAD);
        CHECK.due("sum above", x.debt(0, 1, 1000001, 0, 0), TinHouse.BAD);
        CHECK.due("lent below", x.debt(0, 1, 1, -1, 0), TinHouse.BAD);
        CHECK.due("due above", x.debt(0, 1, 1, 0, 100), TinHouse.BAD);
        CHECK.due("due ahead of lent", x.debt(0, 1, 1, 5, 4), TinHouse.BAD);
        CHECK.due("none yet", x.count(2), 0);
        for (int i = 0; i < 40; i++) {
            CHECK.due("debt " + i, x.debt(i % 3, (i + 1) % 3, i == 0 ? 1 : 1000000, i, 99), i);
        }
        CHECK.due("the 41st", x.debt(0, 1, 1, 0, 0), TinHouse.FULL);
        CHECK.due("BAD ahead of FULL", x.debt(0, 0, 1, 0, 0), TinHouse.BAD);
        CHECK.due("count", x.count(2), 40);
    }

    private static void payments() {
        TinHouse x = Check.withMerchants(2);
        x.debt(0, 1, 100, 10, 20);
        CHECK.due("debt", x.pay(1, 10, 5), TinHouse.BAD);
        CHECK.due("debt below", x.pay(-1, 10, 5), TinHouse.BAD);
        CHECK.due("season", x.pay(0, 100, 5), TinHouse.BAD);
        CHECK.due("ahead of lent", x.pay(0, 9, 5), TinHouse.BAD);
        CHECK.due("sum 0", x.pay(0, 10, 0), TinHouse.BAD);
        CHECK.due("sum above", x.pay(0, 10, 1000001), TinHouse.BAD);
        for (int i = 1; i <= 60; i++) {
            CHECK.due("pay " + i, x.pay(0, i == 1 ? 10 : 99, i == 2 ? 1000000 : 1), i);
        }
        CHECK.due("the 61st", x.pay(0, 99, 1), TinHouse.FULL);
        CHECK.due("BAD ahead of FULL", x.pay(0, 9, 1), TinHouse.BAD);
        CHECK.due("count", x.count(3), 60);
    }

    private static void owed() {
        TinHouse x = Check.withMerchants(2);
        x.debt(0, 1, 1000, 5, 8);
        CHECK.due("ahead of lent", x.owed(0, 4), 0);
        CHECK.due("lent", x.owed(0, 5), 1000);
        CHECK.due("due", x.owed(0, 8), 1000);
        CHECK.due("behind it", x.owed(0, 9), 1030);
        CHECK.due("two behind it", x.owed(0, 10), 1060);
        CHECK.due("three behind it", x.owed(0, 11), 1091);
        x.pay(0, 5, 100);
        CHECK.due("paid when lent", x.owed(0, 5), 900);
        x.pay(0, 9, 450);
        CHECK.due("paid ahead of growth", x.owed(0, 9), 463);
        CHECK.due("ahead of the payment", x.owed(0, 8), 900);
        x.pay(0, 9, 50);
        CHECK.due("two of one season", x.owed(0, 9), 412);
        x.pay(0, 10, 5000);
        CHECK.due("as far as there is owed", x.owed(0, 10), 0);
        CHECK.due("stays at 0", x.owed(0, 99), 0);
        x.debt(1, 0, 10, 0, 0);
        CHECK.due("payments are of their debt", x.owed(1, 99), 10);
        CHECK.due("debt", x.owed(2, 0), TinHouse.BAD);
        CHECK.due("debt below", x.owed(-1, 0), TinHouse.BAD);
        CHECK.due("season", x.owed(0, 100), TinHouse.BAD);
        CHECK.due("season below", x.owed(0, -1), TinHouse.BAD);
    }

    private static void owedAtEdges() {
        TinHouse x = Check.withMerchants(2);
        Check.enact(x, "1000", 1, 0);
        x.debt(0, 1, 6, 0, 0);
        CHECK.due("season 0", x.owed(0, 0), 6);
        x.pay(0, 0, 4);
        CHECK.due("paid in season 0", x.owed(0, 0), 2);
        x.pay(0, 1, 1);
        CHECK.due("one grows too", x.owed(0, 1), 2);
        x.pay(0, 99, 3);
        CHECK.due("season 99, at most", x.owed(0, 99), 1000000000000L);
        x.debt(0, 1, 9, 99, 99);
        x.pay(1, 99, 2);
        CHECK.due("lent in season 99", x.owed(1, 99), 7);
        CHECK.due("outside 1", x.seal(1, 1), 1);
        CHECK.due("paid as far as there is owed", x.owed(1, 99), 0);
    }

    private static void rates() {
        TinHouse x = new TinHouse();
        x.merchant(0, 0);
        x.merchant(0, 1);
        x.merchant(1, 0);
        Check.enact(x, "k?100:t?200:300", 1, 0);
        x.debt(0, 1, 1000, 0, 0);
        x.debt(2, 1, 1000, 0, 0);
        x.debt(1, 2, 1000, 0, 0);
        CHECK.due("of kin", x.owed(0, 1), 1100);
        CHECK.due("town of who owes", x.owed(1, 1), 1200);
        CHECK.due("the other town", x.owed(2, 1), 1300);
        Check.enact(x, "w>1099?s*10:g+500", 1, 2);
        CHECK.due("by season and what is owed", x.owed(0, 2), 1122);
        CHECK.due("struck by a later act", x.owed(0, 3), 1155);
        x.pay(0, 2, 1);
        CHECK.due("w behind the payment", x.owed(0, 2), 1648);
        Check.enact(x, "-5", 1, 4);
        CHECK.due("0 at least", x.owed(2, 4), x.owed(2, 3));
        Check.enact(x, "1001", 1, 5);
        CHECK.due("1000 at most", x.owed(2, 5), 2 * x.owed(2, 4));
        Check.enact(x, "0-999999*999999*999999*999999", 1, 6);
        CHECK.due("a far number", x.owed(2, 6), 2 * x.owed(2, 5));
        Check.enact(x, "7", 0, 7);
        Check.enact(x, "8", 2, 7);
        CHECK.due("other sorts don't count", x.owed(2, 7), 2 * x.owed(2, 6));
    }

    private static void atMost() {
        TinHouse x = Check.withMerchants(2);
        Check.enact(x, "1000", 1, 0);
        x.debt(0, 1, 1000000, 0, 0);
        CHECK.due("doubles", x.owed(0, 19), 524288000000L);
        CHECK.due("at most", x.owed(0, 20), 1000000000000L);
        CHECK.due("at most, long after", x.owed(0, 99), 1000000000000L);
        x.pay(0, 98, 1000000);
        Check.enact(x, "0", 1, 98);
        CHECK.due("paid from the most", x.owed(0, 98), 999999000000L);
    }

    private static void envelopes() {
        TinHouse x = Check.withMerchants(2);
        x.debt(0, 1, 1000, 2, 4);
        x.pay(0, 3, 100);
        CHECK.due("seal", x.seal(0, 500), 1);
        CHECK.due("outside ahead of lent", x.owed(0, 1), 0);
        CHECK.due("outside counts", x.owed(0, 2), 500);
        CHECK.due("outside less payments", x.owed(0, 3), 400);
        CHECK.due("outside grows", x.owed(0, 5), 412);
        CHECK.due("unbroken to the end", x.owed(0, 99), 6363);
        CHECK.due("balance by the outside", x.balance(0, 3), 400);
        CHECK.due("breaks", x.breaks(0, 5), 1);
        CHECK.due("ahead of its breaking", x.owed(0, 4), 400);
        CHECK.due("as if it had always been so", x.owed(0, 5), 927);
        CHECK.due("balance ahead", x.balance(1, 4), -400);
        CHECK.due("balance then", x.balance(1, 5), -927);
        x.debt(1, 0, 7, 9, 9);
        CHECK.due("the sum told itself", x.seal(1, 7), 1);
        CHECK.due("broken ahead of being lent", x.breaks(1, 0), 1);
        CHECK.due("owed", x.owed(1, 9), 7);
    }

    private static void envelopesRefused() {
        TinHouse x = Check.withMerchants(2);
        x.debt(0, 1, 1000, 2, 4);
        CHECK.due("breaks what is not there", x.breaks(0, 3), TinHouse.NO);
        CHECK.due("debt", x.seal(1, 5), TinHouse.BAD);
        CHECK.due("debt below", x.seal(-1, 5), TinHouse.BAD);
        CHECK.due("outside 0", x.seal(0, 0), TinHouse.BAD);
        CHECK.due("outside above", x.seal(0, 1000001), TinHouse.BAD);
        CHECK.due("outside at most", x.seal(0, 1000000), 1);
        CHECK.due("again", x.seal(0, 5), TinHouse.NO);
        CHECK.due("BAD ahead of NO", x.seal(0, 0), TinHouse.BAD);
        CHECK.due("nothing changed", x.owed(0, 2), 1000000);
        CHECK.due("breaks: debt", x.breaks(1, 3), TinHouse.BAD);
        CHECK.due("breaks: season", x.breaks(0, 100), TinHouse.BAD);
        CHECK.due("breaks: season below", x.breaks(0, -1), TinHouse.BAD);
        CHECK.due("breaks", x.breaks(0, 99), 1);
        CHECK.due("breaks again", x.breaks(0, 3), TinHouse.NO);
        CHECK.due("sealed again", x.seal(0, 5), TinHouse.NO);
        CHECK.due("still broken then", x.owed(0, 3), 1000000);
    }

    private static void purses() {
        TinHouse x = Check.withMerchants(2);
        CHECK.due("manager", x.purse(2, 5, 5), TinHouse.BAD);
        CHECK.due("manager below", x.purse(-1, 5, 5), TinHouse.BAD);
        CHECK.due("end", x.purse(0, 100, 5), TinHouse.BAD);
        CHECK.due("end below", x.purse(0, -1, 5), TinHouse.BAD);
        CHECK.due("put 0", x.purse(0, 5, 0), TinHouse.BAD);
        CHECK.due("put above", x.purse(0, 5, 10001), TinHouse.BAD);
        CHECK.due("purse 0", x.purse(0, 0, 1), 0);
        CHECK.due("purse 1", x.purse(1, 99, 10000), 1);
        CHECK.due("purse 2", x.purse(1, 99, 10000), 2);
        CHECK.due("the 4th", x.purse(1, 99, 10000), TinHouse.FULL);
        CHECK.due("BAD ahead of FULL", x.purse(1, 99, MAX), TinHouse.BAD);
        CHECK.due("count", x.count(4), 3);
    }

    private static void shares() {
        TinHouse x = Check.withMerchants(3);
        x.purse(0, 5, 5);
        x.purse(0, 5, 5);
        CHECK.due("purse", x.share(2, 0, 1), TinHouse.BAD);
        CHECK.due("purse below", x.share(-1, 0, 1), TinHouse.BAD);
        CHECK.due("merchant", x.share(0, 3, 1), TinHouse.BAD);
        CHECK.due("merchant below", x.share(0, -1, 1), TinHouse.BAD);
        CHECK.due("n 0", x.share(0, 0, 0), TinHouse.BAD);
        CHECK.due("n above", x.share(0, 0, 31), TinHouse.BAD);
        CHECK.due("one", x.share(0, 1, 1), 1);
        CHECK.due("more", x.share(0, 1, 4), 5);
        CHECK.due("of another one", x.share(0, 2, 20), 20);
        CHECK.due("above 30", x.share(0, 0, 6), TinHouse.NO);
        CHECK.due("30", x.share(0, 0, 5), 5);
        CHECK.due("above 30 of him", x.share(0, 0, 1), TinHouse.NO);
        CHECK.due("BAD ahead of NO", x.share(0, 3, 1), TinHouse.BAD);
        CHECK.due("all of another purse", x.share(1, 0, 30), 30);
    }

    private static void newPurse() {
        TinHouse x = Check.withMerchants(10);
        x.image(0);
        x.purse(0, 9, 1);
        for (int i = 0; i < 10; i++) {
            x.share(0, i, 3);
        }
        x.from(0);
        x.purse(1, 8, 1);
        for (int i = 0; i < 10; i++) {
            CHECK.due("nobody has shares in a new one", x.leave(0, i, 0), TinHouse.NO);
        }
        CHECK.due("one share", x.share(0, 4, 1), 1);
        CHECK.due("of the rest all", x.parted(0, 100, 4), 67);
        CHECK.due("the manager's third", x.parted(0, 100, 1), 33);
    }

    private static void leaving() {
        TinHouse x = new TinHouse();
        x.merchant(0, 0);
        x.merchant(0, 1);
        x.merchant(1, 1);
        x.merchant(1, 0);
        x.purse(0, 10, 33);
        for (int i = 0; i < 4; i++) {
            x.share(0, i, 3 + i);
        }
        CHECK.due("purse", x.leave(1, 0, 0), TinHouse.BAD);
        CHECK.due("merchant", x.leave(0, 4, 0), TinHouse.BAD);
        CHECK.due("at its end", x.leave(0, 0, 10), TinHouse.BAD);
        CHECK.due("behind its end", x.leave(0, 0, 99), TinHouse.BAD);
        CHECK.due("season below", x.leave(0, 0, -1), TinHouse.BAD);
        CHECK.due("without an act all", x.leave(0, 3, 9), 198);
        CHECK.due("his shares are none", x.leave(0, 3, 9), TinHouse.NO);
        CHECK.due("BAD ahead of NO", x.leave(0, 3, 10), TinHouse.BAD);
        Check.enact(x, "k*50+t*7+g+s+(w=99)", 2, 3);
        CHECK.due("ahead of the act", x.leave(0, 2, 2), 165);
        CHECK.due("kin, town, season, put", x.leave(0, 1, 4), 80);
        CHECK.due("the manager is his own kin", x.leave(0, 0, 5), 55);
        CHECK.due("shares again", x.share(0, 3, 30), 30);
        Check.enact(x, "201", 2, 6);
        CHECK.due("200 at most", x.leave(0, 3, 6), 1980);
        CHECK.due("shares of one", x.share(0, 2, 10), 10);
        Check.enact(x, "-1", 2, 7);
        CHECK.due("0 at least", x.leave(0, 2, 7), 0);
        CHECK.due("left with nothing", x.leave(0, 2, 7), TinHouse.NO);
    }

    private static void parting() {
        TinHouse x = Check.withMerchants(4);
        x.purse(1, 10, 33);
        CHECK.due("no shares: all to the manager", x.parted(0, 1000, 1), 1000);
        CHECK.due("no shares: none to others", x.parted(0, 1000, 0), 0);
        x.share(0, 0, 7);
        x.share(0, 2, 5);
        CHECK.due("seven of twelve", x.parted(0, 1001, 0), 389);
        CHECK.due("five of twelve", x.parted(0, 1001, 2), 278);
        CHECK.due("a third and what is over", x.parted(0, 1001, 1), 334);
        CHECK.due("no shares", x.parted(0, 1001, 3), 0);
        x.share(0, 1, 1);
        CHECK.due("the manager's own share too", x.parted(0, 1001, 1), 333 + 51 + 2);
        CHECK.due("seven of thirteen", x.parted(0, 1001, 0), 359);
        CHECK.due("five of thirteen", x.parted(0, 1001, 2), 256);
        CHECK.due("nothing in it", x.parted(0, 0, 1), 0);
        x.leave(0, 2, 0);
        CHECK.due("of those that stay", x.parted(0, 1001, 0), 584);
        CHECK.due("at most", x.parted(0, 100000000, 0), 58333333);
        CHECK.due("at most, the manager", x.parted(0, 100000000, 1), 41666667);
        CHECK.due("purse", x.parted(1, 10, 0), TinHouse.BAD);
        CHECK.due("purse below", x.parted(-1, 10, 0), TinHouse.BAD);
        CHECK.due("shekels below", x.parted(0, -1, 0), TinHouse.BAD);
        CHECK.due("shekels above", x.parted(0, 100000001, 0), TinHouse.BAD);
        CHECK.due("merchant", x.parted(0, 10, 4), TinHouse.BAD);
        CHECK.due("merchant below", x.parted(0, 10, -1), TinHouse.BAD);
    }
}
