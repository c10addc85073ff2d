import java.util.function.Consumer;

/** Promises 38 to 42, every boundary that the document names: loads, prices, the plan, the fraction. */
public final class PlansEdgesTest {
    private static final int NONE = TinHouse.NONE, BAD = TinHouse.BAD, FULL = TinHouse.FULL;
    private static final long BAD_SILVER = -9000000000000000000L;
    private static final int BAD_PART = -1;
    private static final int TOLL = 0;
    private static final int WIDE = 0, NARROW = 1, STAY = 2;
    private static final Consumer<Case> NOTHING = c -> { };
    private static final Cases CASES = new Cases("PlansEdgesTest");

    public static void main(String[] args) {
        loads();
        unloading();
        prices();
        plan();
        planOfOne();
        worstWorld();
        likePlans();
        planOfTheSeason();
        planOfOwners();
        fullPlan();
        part();
        CASES.end();
    }

    // ---- promises 38 and 39

    private static void loads() {
        Consumer<Case> three = c -> c.merchants(3);
        CASES.bounds(BAD, three, "load", 1, 500, 60)
                .number(0, 0, 0, 2, 0).number(1, 1, 0, 1000000, 0).number(2, 0, 0, 1000000, 0);
        CASES.test("load: 0 .. 5 as they come, the 7th is too many", c -> {
            c.merchants(2);
            for (int i = 0; i < 6; i++) {
                c.gives(i, "load", i % 2, 1 + i, i);
            }
            c.refuses(FULL, "load", 0, 1, 0).refuses(FULL, "load", 1, 1000000, 1000000).gives(6, "count", 10);
        });
        CASES.test("load: BAD ahead of FULL", c -> {
            c.merchants(1).times(6, "load", 0, 1, 0).refuses(BAD, "load", 1, 1, 0).refuses(BAD, "load", -1, 1, 0);
            c.refuses(BAD, "load", 0, 0, 0).refuses(BAD, "load", 0, 1000001, 0).refuses(BAD, "load", 0, 1, -1);
            c.refuses(BAD, "load", 0, 1, 1000001).refuses(FULL, "load", 0, 1, 0);
        });
    }

    private static void unloading() {
        CASES.test("unload: none", c -> c.gives(0, "unload").gives(0, "count", 10));
        CASES.test("unload: one", c -> c.merchants(1).tell("load", 0, 1, 0).gives(1, "unload").gives(0, "unload"));
        CASES.test("unload: six, then others", c -> {
            c.merchants(1).times(6, "load", 0, 1, 0).gives(6, "unload").refuses(BAD_SILVER, "plan", 0, 0);
            c.gives(0, "plan", 0, NONE).gives(0, "load", 0, 1, 0).gives(1, "count", 10);
        });
    }

    // ---- promise 40

    private static void prices() {
        Consumer<Case> each = c -> c.tell("price", 0, 11).tell("price", 1, 12).tell("price", 2, 13);
        CASES.bounds(BAD, each, "price", 1, 50).number(0, 0, 11, 2, 13).number(1, 0, 12, 1000, 12);
        CASES.test("price: what it was", c -> {
            c.gives(0, "price", 0, 1000).gives(1000, "price", 0, 0).gives(0, "price", 0, 1).gives(0, "price", 1, 5);
        });
        CASES.test("price: a refused one leaves it", c -> {
            each.accept(c);
            c.refuses(BAD, "price", 2, 1001).refuses(BAD, "price", 2, -1).refuses(BAD, "price", 3, 5);
            c.gives(13, "price", 2, 13);
        });
    }

    private static Consumer<Case> prices(int first, int second, int third) {
        return c -> c.tell("price", 0, first).tell("price", 1, second).tell("price", 2, third);
    }

    // ---- promise 41

    /** THE PLAN of SEASON 0: its silver, and the way of each load. */
    private static void holds(Case c, long silver, int... ways) {
        c.gives(silver, "plan", 0, NONE);
        for (int i = 0; i < ways.length; i++) {
            c.gives(ways[i], "plan", 0, i);
        }
        c.refuses(BAD_SILVER, "plan", 0, ways.length);
    }

    private static void plan() {
        Consumer<Case> two = c -> {
            c.merchants(1).tell("load", 0, 100, 10).tell("load", 0, 100, 1000);
            prices(50, 60, 70).accept(c);
        };
        CASES.bounds(BAD_SILVER, two, "plan", 50, NONE).number(0, 0, 40, 99, 40).number(1, NONE, 40, 1, STAY);
        CASES.bounds(BAD_SILVER, two, "plan", 50, 0).number(0, 0, WIDE, 99, WIDE).taken(1, 0, WIDE);
        CASES.test("plan: no LOADS", c -> {
            prices(1000, 1000, 1000).accept(c);
            holds(c, 0);
            c.gives(0, "plan", 99, NONE).refuses(BAD_SILVER, "plan", 0, -2).refuses(BAD_SILVER, "plan", 100, NONE);
        });
        CASES.test("plan: the 6th LOAD is there, the next is not", c -> {
            c.merchants(1).times(5, "load", 0, 1, 1).refuses(BAD_SILVER, "plan", 0, 5).tell("load", 0, 1, 1);
            c.gives(STAY, "plan", 0, 5).refuses(BAD_SILVER, "plan", 0, 6);
        });
    }

    /** THE PLAN of one load at one price in all worlds, behind so many gates. */
    private static void one(String what, int gates, int weight, int cost, int price, long silver, int way) {
        CASES.test("plan: " + what, c -> {
            c.merchants(1).times(gates, "gate", 0).tell("load", 0, weight, cost);
            prices(price, price, price).accept(c);
            holds(c, silver, way);
        });
    }

    private static void planOfOne() {
        one("what is left by a price", 0, 1000, 0, 50, 500, WIDE);
        one("less its cost", 0, 1000, 499, 50, 1, WIDE);
        one("alike to staying", 0, 1000, 500, 50, 0, WIDE);
        one("below staying", 0, 1000, 501, 50, 0, STAY);
        one("silver is cut to nothing", 0, 99, 0, 1, 0, WIDE);
        one("silver is 1", 0, 100, 0, 1, 1, WIDE);
        one("cut ahead of the cost", 0, 199, 1, 1, 0, WIDE);
        one("no price", 0, 1000000, 0, 0, 0, WIDE);
        one("no price, a cost", 0, 1000000, 1, 0, 0, STAY);
        one("at most", 0, 1000000, 0, 1000, 10000000, WIDE);
        one("the cost at most", 0, 1000000, 1000000, 1000, 9000000, WIDE);
        one("the wide way by a little", 2, 1000, 0, 100, 903, WIDE);
        one("the narrow way", 3, 1000, 0, 100, 900, NARROW);
        one("MEAN is cut", 3, 1009, 0, 100, 908, NARROW);
        one("MEAN of 1 is cut to nothing", 0, 1, 0, 1000, 10, WIDE);
        one("of like silver the wide way", 2, 10, 0, 50, 5, WIDE);
        CASES.test("plan: MEAN, cut, is alike", c -> {
            c.merchants(1).tell("gate", 0).act("10", TOLL, 0).tell("load", 0, 1000, 0);
            prices(100, 100, 100).accept(c);
            holds(c, 900, WIDE);
            c.gives(10, "narrow", 11);
            holds(c, 909, NARROW);
            c.gives(11, "narrow", 9);
            holds(c, 900, WIDE);
        });
        CASES.test("plan: half of it is cut ahead of the price", c -> {
            c.merchants(1).tell("gate", 0).act("100", TOLL, 0).tell("load", 0, 3, 0).tell("narrow", 2);
            prices(200, 200, 200).accept(c);
            holds(c, 2, NARROW);
        });
    }

    private static void worstWorld() {
        int[][] rows = {{10, 20, 30}, {30, 10, 20}, {20, 30, 10}, {10, 10, 30}, {30, 10, 10}, {10, 30, 10}};
        for (int[] row : rows) {
            CASES.test("plan: the worst of " + row[0] + ", " + row[1] + ", " + row[2], c -> {
                c.merchants(1).tell("load", 0, 100, 9);
                prices(row[0], row[1], row[2]).accept(c);
                holds(c, 1, WIDE);
            });
        }
        CASES.test("plan: one WORLD without a price", c -> {
            c.merchants(1).tell("load", 0, 1000, 1);
            prices(1000, 1000, 0).accept(c);
            holds(c, 0, STAY);
        });
        CASES.test("plan: below 0 in no WORLD, as staying gives nothing", c -> {
            c.merchants(1).tell("load", 0, 1, 1000000).tell("load", 0, 1, 1000000);
            prices(1000, 1000, 1000).accept(c);
            holds(c, 0, STAY, STAY);
        });
        CASES.test("plan: the worst of all LOADS together, not of each", c -> {
            c.merchants(1).tell("load", 0, 1000, 500).tell("load", 0, 1000, 0);
            prices(40, 100, 100).accept(c);
            holds(c, 400, STAY, WIDE);
            c.tell("price", 0, 60);
            holds(c, 700, WIDE, WIDE);
        });
    }

    private static void likePlans() {
        CASES.test("plan: of like ones all go the wide way", c -> {
            c.merchants(1).times(3, "load", 0, 100, 0);
            holds(c, 0, WIDE, WIDE, WIDE);
        });
        CASES.test("plan: of like ones the first by LOAD 0", c -> {
            c.merchants(1).tell("load", 0, 100, 10).tell("load", 0, 100, 10);
            prices(0, 10, 10).accept(c);
            holds(c, 0, STAY, STAY);
            c.tell("price", 0, 10);
            holds(c, 0, WIDE, WIDE);
        });
        CASES.test("plan: the first row, narrow ahead of staying", c -> {
            c.merchants(1).tell("gate", 0).act("100", TOLL, 0).tell("load", 0, 100, 45).tell("load", 0, 100, 0);
            prices(50, 50, 50).accept(c);
            holds(c, 45, NARROW, NARROW);
            c.tell("load", 0, 1, 0);
            holds(c, 45, NARROW, NARROW, WIDE);
        });
        CASES.test("plan: the first row where the worst WORLD lets one choose", c -> {
            c.merchants(1).tell("load", 0, 100, 0).tell("load", 0, 100, 5);
            prices(0, 50, 50).accept(c);
            holds(c, 0, WIDE, STAY);
        });
    }

    private static void planOfTheSeason() {
        CASES.test("plan: by TOLL in force in the SEASON", c -> {
            c.merchants(2).tell("gate", 1).act("k?0:50", TOLL, 10).tell("load", 0, 100, 0).tell("load", 1, 100, 0);
            prices(200, 300, 200).accept(c);
            c.gives(380, "plan", 9, NONE).gives(WIDE, "plan", 9, 0).gives(380, "plan", 10, NONE);
            c.gives(NARROW, "plan", 10, 0).gives(WIDE, "plan", 10, 1).gives(NARROW, "plan", 99, 0);
        });
    }

    private static void planOfOwners() {
        CASES.test("plan: each LOAD by TOLL of its own MERCHANT", c -> {
            c.tell("merchant", 0, 0).tell("merchant", 0, 1).tell("merchant", 1, 0).tell("merchant", 1, 1);
            c.tell("gate", 1).act("k?0:100", TOLL, 0).tell("narrow", 2);
            prices(100, 100, 100).accept(c);
            for (int owner : new int[] {2, 3, 3, 0, 1, 2}) {
                c.tell("load", owner, 100, 60);
            }
            holds(c, 120, STAY, WIDE, WIDE, STAY, WIDE, STAY);
        });
        CASES.test("plan: of one SEASON, of another one, and again", c -> {
            c.merchants(1).tell("gate", 0).act("100", TOLL, 10).act("0", TOLL, 20).tell("load", 0, 100, 0);
            prices(100, 100, 100).accept(c);
            for (int times = 0; times < 2; times++) {
                c.gives(95, "plan", 9, NONE).gives(WIDE, "plan", 9, 0).gives(90, "plan", 10, NONE);
                c.gives(NARROW, "plan", 10, 0).gives(100, "plan", 20, NONE).gives(WIDE, "plan", 20, 0);
            }
        });
    }

    private static void fullPlan() {
        CASES.test("plan: six LOADS at most", c -> {
            c.merchants(1).times(6, "load", 0, 1000000, 0);
            prices(1000, 1000, 1000).accept(c);
            holds(c, 60000000, WIDE, WIDE, WIDE, WIDE, WIDE, WIDE);
        });
        CASES.test("plan: six LOADS, the last stays", c -> {
            c.merchants(1).times(6, "gate", 0).times(5, "load", 0, 100, 0).tell("load", 0, 100, 1000000);
            prices(100, 100, 100).accept(c);
            holds(c, 450, NARROW, NARROW, NARROW, NARROW, NARROW, STAY);
        });
        CASES.test("plan: six LOADS, the first stays", c -> {
            c.merchants(1).tell("load", 0, 100, 1000000).times(5, "load", 0, 100, 0);
            prices(100, 100, 100).accept(c);
            holds(c, 500, STAY, WIDE, WIDE, WIDE, WIDE, WIDE);
        });
        CASES.test("plan: it changes nothing", c -> {
            c.merchants(1).tell("mean", 3).tell("load", 0, 100, 0).gives(0, "plan", 0, NONE).gives(0, "plan", 0, 0);
            c.gives(27, "part", 0).gives(10, "part", 1).gives(10, "narrow", 10);
        });
    }

    // ---- promise 42

    private static void part() {
        CASES.bounds(BAD_PART, c -> c.tell("mean", 3), "part", 0).number(0, 0, 27, 1, 10);
        CASES.test("part: by the call that was the last", c -> {
            c.tell("mean", 3).tell("stone", 10, 24, 10).tell("span", 5, 0).gives(7, "part", 0).gives(1, "part", 1);
            c.tell("span", 5, 1).gives(17, "part", 0).gives(1, "part", 1).tell("mean", 3).gives(27, "part", 0);
            c.gives(10, "part", 1);
        });
        CASES.test("part: cut down", c -> {
            c.tell("stone", 6, 4, 0).tell("span", 4, 0).gives(8, "part", 0).gives(3, "part", 1);
        });
        CASES.test("part: asked of nothing told", c -> c.gives(0, "part", 0).gives(1, "part", 1).refuses(BAD_PART, "part", 2));
    }
}
