/** Promises 38 to 42: loads, prices, the plan, the fraction. */
public final class PlansTest {
    private static final long BAD_SILVER = -9000000000000000000L;
    private static final Check CHECK = new Check("PlansTest");

    public static void main(String[] args) {
        loads();
        prices();
        plan();
        worstWorld();
        eachWorld();
        likePlans();
        tollsOfTheSeason();
        part();
        CHECK.end();
    }

    private static void loads() {
        TinHouse x = Check.withMerchants(2);
        CHECK.due("merchant", x.load(2, 1, 0), TinHouse.BAD);
        CHECK.due("merchant below", x.load(-1, 1, 0), TinHouse.BAD);
        CHECK.due("weight 0", x.load(0, 0, 0), TinHouse.BAD);
        CHECK.due("weight above", x.load(0, 1000001, 0), TinHouse.BAD);
        CHECK.due("cost below", x.load(0, 1, -1), TinHouse.BAD);
        CHECK.due("cost above", x.load(0, 1, 1000001), TinHouse.BAD);
        for (int i = 0; i < 6; i++) {
            CHECK.due("load " + i, x.load(i % 2, 1000000, 1000000), i);
        }
        CHECK.due("the 7th", x.load(0, 1, 0), TinHouse.FULL);
        CHECK.due("BAD ahead of FULL", x.load(2, 1, 0), TinHouse.BAD);
        CHECK.due("count", x.count(10), 6);
        CHECK.due("unload", x.unload(), 6);
        CHECK.due("none", x.count(10), 0);
        CHECK.due("unload again", x.unload(), 0);
        CHECK.due("anew", x.load(0, 1, 0), 0);
    }

    private static void prices() {
        TinHouse x = new TinHouse();
        CHECK.due("world", x.price(3, 1), TinHouse.BAD);
        CHECK.due("world below", x.price(-1, 1), TinHouse.BAD);
        CHECK.due("v below", x.price(0, -1), TinHouse.BAD);
        CHECK.due("v above", x.price(0, 1001), TinHouse.BAD);
        CHECK.due("at first", x.price(0, 1000), 0);
        CHECK.due("what it was", x.price(0, 5), 1000);
        CHECK.due("another world", x.price(1, 5), 0);
        CHECK.due("0 again", x.price(0, 0), 5);
        CHECK.due("what it was then", x.price(0, 7), 0);
    }

    private static void prices(TinHouse x, int first, int second, int third) {
        x.price(0, first);
        x.price(1, second);
        x.price(2, third);
    }

    private static void rows(TinHouse x, int season, long silver, int... row) {
        CHECK.due("silver", x.plan(season, TinHouse.NONE), silver);
        for (int i = 0; i < row.length; i++) {
            CHECK.due("way of " + i, x.plan(season, i), row[i]);
        }
        CHECK.due("no such load", x.plan(season, row.length), BAD_SILVER);
    }

    private static void plan() {
        TinHouse x = Check.withMerchants(2);
        rows(x, 0, 0);
        prices(x, 100, 100, 100);
        x.load(0, 1000, 400);
        rows(x, 0, 600, 0);
        x.gate(0);
        rows(x, 0, 550, 0);
        x.gate(1);
        x.gate(1);
        rows(x, 0, 500, 1);
        x.load(1, 100, 101);
        rows(x, 0, 500, 1, 2);
        x.load(1, 7, 0);
        rows(x, 0, 507, 1, 2, 0);
        x.narrow(3);
        rows(x, 0, 458 + 7, 0, 2, 0);
        CHECK.due("season", x.plan(100, -1), BAD_SILVER);
        CHECK.due("season below", x.plan(-1, -1), BAD_SILVER);
        CHECK.due("what below", x.plan(0, -2), BAD_SILVER);
        x.unload();
        rows(x, 0, 0);
    }

    private static void worstWorld() {
        TinHouse x = Check.withMerchants(1);
        prices(x, 100, 50, 90);
        x.load(0, 999, 400);
        rows(x, 0, 99, 0);
        x.price(2, 30);
        rows(x, 0, 0, 2);
        prices(x, 1000, 1000, 1000);
        x.unload();
        for (int i = 0; i < 6; i++) {
            x.load(0, 1000000, 0);
        }
        rows(x, 0, 60000000, 0, 0, 0, 0, 0, 0);
    }

    /** Each world once the worst one. */
    private static void eachWorld() {
        TinHouse x = Check.withMerchants(1);
        x.load(0, 100, 0);
        x.load(0, 10, 0);
        prices(x, 10, 20, 30);
        rows(x, 0, 11, 0, 0);
        prices(x, 30, 10, 20);
        rows(x, 0, 11, 0, 0);
        prices(x, 20, 30, 10);
        rows(x, 0, 11, 0, 0);
    }

    private static void likePlans() {
        TinHouse x = Check.withMerchants(1);
        x.load(0, 10, 0);
        x.load(0, 20, 0);
        rows(x, 0, 0, 0, 0);
        x.gate(0);
        Check.enact(x, "10", 0, 0);
        prices(x, 100, 100, 100);
        rows(x, 0, 27, 0, 0);
        x.narrow(100);
        rows(x, 0, 28, 0, 1);
        x.load(0, 1, 0);
        prices(x, 0, 100, 100);
        rows(x, 0, 0, 0, 0, 0);
        x.load(0, 1, 1);
        rows(x, 0, 0, 0, 0, 0, 2);
    }

    private static void tollsOfTheSeason() {
        TinHouse x = Check.withMerchants(2);
        x.gate(1);
        Check.enact(x, "k?0:50", 0, 10);
        prices(x, 200, 300, 200);
        x.load(0, 100, 0);
        x.load(1, 100, 0);
        rows(x, 9, 380, 0, 0);
        rows(x, 10, 380, 1, 0);
        x.narrow(2);
        rows(x, 10, 300, 0, 0);
    }

    private static void part() {
        TinHouse x = new TinHouse();
        CHECK.due("above", x.part(0), 0);
        CHECK.due("below", x.part(1), 1);
        CHECK.due("what", x.part(2), -1);
        CHECK.due("what below", x.part(-1), -1);
        x.stone(6, 4, 0);
        x.span(4, 0);
        CHECK.due("above, cut down", x.part(0), 8);
        CHECK.due("below, cut down", x.part(1), 3);
    }
}
